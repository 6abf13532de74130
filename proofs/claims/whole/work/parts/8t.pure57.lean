/-! PURE, 57: the class's polynomial: splitting, adding a product -/
theorem low_pair {a b : Nat} (hab : a < b) : isLow (2 ^ a ||| 2 ^ b) a ∧ rmB (2 ^ a ||| 2 ^ b) a = 2 ^ b ∧ isLow (2 ^ b) b := by
  have hb : ∀ i, (2 ^ a ||| 2 ^ b).testBit i = true ↔ i = a ∨ i = b := fun i => by
    rw [Nat.testBit_or, Bool.or_eq_true, Nat.testBit_two_pow, Nat.testBit_two_pow, decide_eq_true_iff, decide_eq_true_iff]
    exact ⟨fun w => w.elim (fun z => Or.inl z.symm) (fun z => Or.inr z.symm), fun w => w.elim (fun z => Or.inl z.symm) (fun z => Or.inr z.symm)⟩
  have hb2 : ∀ i, (2 ^ b).testBit i = true ↔ i = b := fun i => by
    rw [Nat.testBit_two_pow, decide_eq_true_iff]
    exact ⟨fun w => w.symm, fun w => w.symm⟩
  refine ⟨⟨(hb a).mpr (Or.inl rfl), fun j hj w => by rcases (hb j).mp w with z | z <;> omega⟩, ?_, (hb2 b).mpr rfl, fun j hj w => by have := (hb2 j).mp w; omega⟩
  apply bit_eq
  intro i
  rw [rmB_bit, hb, hb2]
  constructor
  · rintro ⟨w | w, z⟩
    · exact absurd w z
    · exact w
  · intro w
    exact ⟨Or.inr w, by omega⟩
theorem Pol_split_ok {F t V a b : Nat} {vs : Int32} {nd : Nat → Int32} {fa : Nat → Int64} {M : Nat → Nat → Int32} (ht : t + 1 < 68) (hV : V < 2 ^ 12) (hnd : nd t = nI V) (hok : okN (nrP (M t))) (hab : a < b) (hb12 : b < 12) (hq4 : ¬ nrP (M t) a b) (hF : 100 < F) : OK (m_Pol_splitTop F vs nd fa M (nI t) (nI (2 ^ a ||| 2 ^ b))) (fun r => r.1 (t + 1) = nI V ∧ r.1 t = nI (rmB V b) ∧ r.2.1 (t + 1) = fa t ∧ r.2.1 t = fa t ∧ (∀ i j, nrP (r.2.2 (t + 1)) i j ↔ nrAdd (nrP (M t)) a b i j) ∧ (∀ i j, nrP (r.2.2 t) i j ↔ nrCon (nrP (M t)) a b i j) ∧ ∀ s, ¬ s = t → ¬ s = t + 1 → r.1 s = nd s ∧ r.2.1 s = fa s ∧ r.2.2 s = M s) := by
  unfold m_Pol_splitTop
  have e12 : (12 : Int32).toNatClampNeg = 12 := rfl
  have e0 : (0 : Int32).toNatClampNeg = 0 := rfl
  · have ha12 : a < 12 := by omega
    obtain ⟨l1, l2, l3⟩ := low_pair hab
    have hpa : 2 ^ a < 2 ^ 12 := Nat.pow_lt_pow_right (by omega) ha12
    have hpb : 2 ^ b < 2 ^ 12 := Nat.pow_lt_pow_right (by omega) hb12
    have hor : 2 ^ a ||| 2 ^ b < 2 ^ 12 := Nat.or_lt_two_pow hpa hpb
    have hor0 : 2 ^ a ||| 2 ^ b ≠ 0 := bit_nz l1.1
    refine OK_gM (P' := fun x => x = nI a) ⟨_, lowestOf_low (n := 12) (by omega) hor l1, rfl⟩ ?_
    rintro _ rfl
    rw [show nI (2 ^ a ||| 2 ^ b) - 1 = nI ((2 ^ a ||| 2 ^ b) - 1) from pk_sub (b := 1) (by omega), nx_and, and_pred l1, l2]
    refine OK_gM (P' := fun x => x = nI b) ⟨_, lowestOf_low (n := 12) (by omega) hpb l3, rfl⟩ ?_
    rintro _ rfl
    rw [nI_1 t, nI_clamp (n := t) (by omega), hnd, gC_t (inb_nI (by omega) (by omega)), gC_t (inb_nI ht (by omega)), gC_t (show cpyB (0 : Int32) (0 : Int32) (12 : Int32) 12 12 = true from cpyB_n (n := 12) (Nat.le_refl _) (Nat.le_refl _) (by omega)), gC_t (inb_nI (by omega) (by omega)), gC_t (inb_nI ht (by omega)), gC_t (inb_nI (by omega) (by omega)), gC_t (inb_nI ht (by omega)), gC_t (inb_nI ht (by omega)), gC_t (inb_nI ha12 (by omega)), gC_t (inb_nI ha12 (by omega)), gC_t (inb_nI ht (by omega)), gC_t (inb_nI hb12 (by omega)), gC_t (inb_nI hb12 (by omega)), gC_t (inb_nI (by omega) (by omega)), gC_t (inb_nI ha12 (by omega)), gC_t (inb_nI hb12 (by omega)), gC_t (inb_nI ha12 (by omega)), nI_clamp (n := t + 1) (by omega), nI_clamp (n := a) (by omega), nI_clamp (n := b) (by omega), e12, e0]
    have hba : bt (M t b) a = false := bt_f (fun w => hq4 (hok.sym _ _ ⟨hb12, ha12, w⟩))
    have hbb : bt (M t b) b = false := bt_f (fun w => hok.irr b ⟨hb12, hb12, w⟩)
    refine OK_for 12 (fun x z => ∃ G : Nat → Nat → Int32, z = (nI x, G) ∧ (∀ s, ¬ s = t → ¬ s = t + 1 → G s = M s) ∧ (∀ i, i < 12 → ∀ j, j < 32 → (bt (G (t + 1) i) j = true ↔ bt (M t i) j = true ∨ (i = a ∧ j = b) ∨ (i = b ∧ j = a))) ∧ G t b = M t b ∧ (∀ i, i < 12 → ∀ j, j < 32 → (bt (G t i) j = true ↔ bt (M t i) j = true ∨ (i = a ∧ bt (M t b) j = true) ∨ (j = a ∧ i < x ∧ bt (M t b) i = true)))) ?_ ?_ F 0 _ (by omega) ⟨_, rfl, ?_, ?_, ?_, ?_⟩ (by omega)
    · rintro k1 z ⟨G, rfl, h1, h2, h3, h4⟩
      try dsimp only
      rw [if_pos (show (12 : Int32) ≤ nI 12 from nI_le (Nat.le_refl _) (by omega)), gC_t (inb_nI (by omega) (by omega)), gC_t (inb_nI (by omega) (by omega))]
      refine OK_some ⟨?_, ?_, pk_uLs, ?_, ?_, ?_, fun s hs1 hs2 => ⟨?_, pk_uLn hs2, h1 s hs1 hs2⟩⟩
      · show upd (upd nd (t + 1) (nI V)) t _ (t + 1) = _
        rw [upd_ne (by omega), upd_same]
      · show upd (upd nd (t + 1) (nI V)) t _ t = _
        rw [upd_same, upd_ne (by omega), hnd, rmB_nI hV (by omega)]
      · show vp_updL fa (t + 1) (fa t) t = _
        rw [pk_uLn (by omega)]
      · intro i j
        constructor
        · rintro ⟨w1, w2, w3⟩
          rcases (h2 i w1 j (by omega)).mp w3 with z | z | z
          · exact Or.inl ⟨w1, w2, z⟩
          · exact Or.inr (Or.inl z)
          · exact Or.inr (Or.inr z)
        · rintro (w | w | w)
          · exact ⟨w.1, w.2.1, (h2 i w.1 j (by have := w.2.1; omega)).mpr (Or.inl w.2.2)⟩
          · exact ⟨by omega, by omega, (h2 i (by omega) j (by omega)).mpr (Or.inr (Or.inl w))⟩
          · exact ⟨by omega, by omega, (h2 i (by omega) j (by omega)).mpr (Or.inr (Or.inr w))⟩
      · intro i j
        constructor
        · rintro ⟨w1, w2, w3⟩
          rcases (h4 i w1 j (by omega)).mp w3 with z | z | z
          · exact Or.inl ⟨w1, w2, z⟩
          · exact Or.inr (Or.inl ⟨z.1, hb12, w2, z.2⟩)
          · exact Or.inr (Or.inr ⟨z.1, hb12, w1, z.2.2⟩)
        · rintro (w | w | w)
          · exact ⟨w.1, w.2.1, (h4 i w.1 j (by have := w.2.1; omega)).mpr (Or.inl w.2.2)⟩
          · exact ⟨by omega, w.2.2.1, (h4 i (by omega) j (by have := w.2.2.1; omega)).mpr (Or.inr (Or.inl ⟨w.1, w.2.2.2⟩))⟩
          · exact ⟨w.2.2.1, by omega, (h4 i w.2.2.1 j (by omega)).mpr (Or.inr (Or.inr ⟨w.1, w.2.2.1, w.2.2.2⟩))⟩
      · show upd (upd nd (t + 1) (nI V)) t _ s = _
        rw [upd_ne hs1, upd_ne hs2]
    · rintro k1 x z hx ⟨G, rfl, h1, h2, h3, h4⟩ hk1
      try dsimp only
      rw [if_neg (show ¬ (12 : Int32) ≤ nI x from nI_ge (a := x) (b := 12) hx (by omega)), gC_t (inb_nI hb12 (by omega))]
      simp only [h3]
      by_cases hbx : bt (M t b) x = true
      · have hxb : ¬ x = b := fun e => by rw [e, hbb] at hbx; cases hbx
        rw [if_neg ((b_ne_t (by omega)).mpr hbx), gC_t (inb_nI hx (by omega)), gC_t (inb_nI hx (by omega)), gB_eq, nI_1, nI_clamp (by omega)]
        refine hk1 _ ⟨_, rfl, fun s hs1 hs2 => by rw [gU_ne hs1]; exact h1 s hs1 hs2, fun i hi j hj => by rw [gU_ne (by omega)]; exact h2 i hi j hj, by rw [gU_at, upd_ne (fun e => hxb e.symm)]; exact h3, fun i hi j hj => ?_⟩
        rw [gU_at]
        by_cases e : i = x
        · subst e
          rw [upd_same, b_or, Bool.or_eq_true, h4 i hi j hj, b_one (by omega) hj, decide_eq_true_iff]
          constructor
          · rintro ((w | w | w) | w)
            · exact Or.inl w
            · exact Or.inr (Or.inl w)
            · omega
            · exact Or.inr (Or.inr ⟨w, by omega, hbx⟩)
          · rintro (w | w | w)
            · exact Or.inl (Or.inl w)
            · exact Or.inl (Or.inr (Or.inl w))
            · exact Or.inr w.1
        · rw [upd_ne e, h4 i hi j hj]
          constructor
          · rintro (w | w | w)
            · exact Or.inl w
            · exact Or.inr (Or.inl w)
            · exact Or.inr (Or.inr ⟨w.1, by omega, w.2.2⟩)
          · rintro (w | w | w)
            · exact Or.inl w
            · exact Or.inr (Or.inl w)
            · exact Or.inr (Or.inr ⟨w.1, by omega, w.2.2⟩)
      · rw [if_pos ((b_test _ (by omega)).mpr (bt_f hbx)), gB_eq, nI_1]
        refine hk1 _ ⟨G, rfl, h1, h2, h3, fun i hi j hj => ?_⟩
        rw [h4 i hi j hj]
        constructor
        · rintro (w | w | w)
          · exact Or.inl w
          · exact Or.inr (Or.inl w)
          · exact Or.inr (Or.inr ⟨w.1, by omega, w.2.2⟩)
        · rintro (w | w | w)
          · exact Or.inl w
          · exact Or.inr (Or.inl w)
          · refine Or.inr (Or.inr ⟨w.1, ?_, w.2.2⟩)
            by_cases e : i = x
            · rw [e] at w; exact absurd w.2.2 hbx
            · omega
    · intro s hs1 hs2
      rw [gU_ne hs1, gU_ne hs2, gU_ne hs2]
      unfold gF
      rw [if_neg hs2]
    · intro i hi j hj
      have ecp : ∀ y, y < 12 → va_cpy (M t) (M (t + 1)) 0 0 12 y = M t y := fun y hy => sb_cpy0 hy
      rw [gU_ne (by omega), gU_at]
      by_cases e : i = b
      · subst e
        rw [upd_same, gU_at, upd_ne (by omega), gF_at, ecp i hi, b_or, Bool.or_eq_true, b_one (by omega) hj, decide_eq_true_iff]
        constructor
        · rintro (w | w)
          · exact Or.inl w
          · exact Or.inr (Or.inr ⟨rfl, w⟩)
        · rintro (w | w | w)
          · exact Or.inl w
          · omega
          · exact Or.inr w.2
      · rw [upd_ne e, gU_at]
        by_cases e2 : i = a
        · subst e2
          rw [upd_same, gF_at, ecp i hi, b_or, Bool.or_eq_true, b_one (by omega) hj, decide_eq_true_iff]
          constructor
          · rintro (w | w)
            · exact Or.inl w
            · exact Or.inr (Or.inl ⟨rfl, w⟩)
          · rintro (w | w | w)
            · exact Or.inl w
            · exact Or.inr w.2
            · omega
        · rw [upd_ne e2, gF_at, ecp i hi]
          constructor
          · exact fun w => Or.inl w
          · rintro (w | w | w)
            · exact w
            · omega
            · omega
    · rw [gU_at, upd_ne (by omega), gU_ne (by omega), gU_ne (by omega)]
      unfold gF
      rw [if_neg (by omega)]
    · intro i hi j hj
      have eX : ∀ y, (gU (gU (gF M (t + 1) (va_cpy (M t) (M (t + 1)) 0 0 12)) (t + 1) a ((gF M (t + 1) (va_cpy (M t) (M (t + 1)) 0 0 12) (t + 1) a) ||| ((1 : Int32) <<< (nI b &&& 31)))) (t + 1) b ((gU (gF M (t + 1) (va_cpy (M t) (M (t + 1)) 0 0 12)) (t + 1) a ((gF M (t + 1) (va_cpy (M t) (M (t + 1)) 0 0 12) (t + 1) a) ||| ((1 : Int32) <<< (nI b &&& 31))) (t + 1) b) ||| ((1 : Int32) <<< (nI a &&& 31)))) t y = M t y := fun y => by
        rw [gU_ne (by omega), gU_ne (by omega)]
        unfold gF
        rw [if_neg (by omega)]
      rw [gU_at]
      by_cases e : i = a
      · subst e
        rw [upd_same, eX, eX, b_or, Bool.or_eq_true]
        constructor
        · rintro (w | w)
          · exact Or.inl w
          · exact Or.inr (Or.inl ⟨rfl, w⟩)
        · rintro (w | w | w)
          · exact Or.inl w
          · exact Or.inr w.2
          · omega
      · rw [upd_ne e, eX]
        constructor
        · exact fun w => Or.inl w
        · rintro (w | w | w)
          · exact w
          · exact absurd w.1 e
          · omega
theorem s_L : ∀ d, d < 12 → (((nI d * 4).toInt64 &&& 63).toBitVec.smod 64).toNat = 4 * d := by decide +kernel
theorem b_15 : ∀ i, i < 32 → bt 15 i = decide (i < 4) := by decide +kernel
theorem pkM_digit {m : Nat → Nat} {d : Nat} (hm : ∀ d, m d < 16) : ∀ D, d < D → pkM m D / 16 ^ d % 16 = m d := by
  have hlt : ∀ D, pkM m D < 16 ^ D := by
    intro D
    induction D with
    | zero => show 0 < 1; decide
    | succ D ih =>
      rw [pkM_s, Nat.pow_succ]
      have h1 := hm D
      have h2 : m D * 16 ^ D ≤ 15 * 16 ^ D := Nat.mul_le_mul_right _ (by omega)
      omega
  intro D hD
  have key : ∀ D, d < D → ∃ r, pkM m D = pkM m d + 16 ^ d * (m d + 16 * r) := by
    intro D
    induction D with
    | zero => intro h; omega
    | succ D ih =>
      intro h
      by_cases e : d = D
      · subst e
        exact ⟨0, by rw [pkM_s, Nat.mul_zero, Nat.add_zero, Nat.mul_comm]⟩
      · obtain ⟨r, hr⟩ := ih (by omega)
        obtain ⟨x, hx⟩ : ∃ x, D = d + 1 + x := ⟨D - d - 1, by omega⟩
        refine ⟨r + m D * 16 ^ x, ?_⟩
        rw [pkM_s, hr]
        have : m D * 16 ^ D = 16 ^ d * (16 * (m D * 16 ^ x)) := by
          rw [hx, Nat.pow_add, Nat.pow_succ]
          generalize 16 ^ d = p
          generalize 16 ^ x = q
          generalize m (d + 1 + x) = y
          rw [Nat.mul_left_comm y, Nat.mul_assoc]
        rw [this, Nat.mul_add 16, ← Nat.add_assoc (m d), Nat.mul_add (16 ^ d) (m d + 16 * r), Nat.add_assoc]
  obtain ⟨r, hr⟩ := key D hD
  rw [hr, Nat.add_mul_div_left _ _ (Nat.pow_pos (by omega)), Nat.div_eq_of_lt (hlt d), Nat.zero_add, Nat.add_mul_mod_self_left]
  exact Nat.mod_eq_of_lt (hm d)
theorem times_of {m : Nat → Nat} {d : Nat} (hm : ∀ d, m d < 16) (hd : d < 12) : ((LI ((pkM m 12 : Nat) : Int) >>> ((nI d * 4).toInt64 &&& 63)).toInt32) &&& 15 = nI (m d) := by
  have hdg := pkM_digit (d := d) hm 12 hd
  have hmd := hm d
  generalize pkM m 12 = n at hdg
  apply b_ext
  intro i hi
  rw [b_and, b_15 i hi, bt_nI _ hi]
  by_cases h4 : i < 4
  · rw [decide_eq_true h4, Bool.and_true]
    have e1 : bt ((LI (n : Int) >>> ((nI d * 4).toInt64 &&& 63)).toInt32) i = n.testBit (4 * d + i) := by
      show ((LI (n : Int) >>> ((nI d * 4).toInt64 &&& 63)).toInt32).toBitVec.getLsbD i = _
      rw [Int64.toBitVec_toInt32, BitVec.getLsbD_signExtend, Int64.toBitVec_shiftRight]
      show (decide (i < 32) && if i < 64 then ((LI (n : Int)).toBitVec.sshiftRight (((nI d * 4).toInt64 &&& 63).toBitVec.smod 64).toNat).getLsbD i else _) = _
      rw [s_L d hd, BitVec.getLsbD_sshiftRight, decide_eq_true hi, if_pos (by omega)]
      have e2 : (LI (n : Int)).toBitVec = BitVec.ofNat 64 n := by
        show BitVec.ofInt 64 (n : Int) = _
        rw [BitVec.ofInt_natCast]
      rw [e2]
      have h5 : 4 * d + i < 64 := by omega
      rw [decide_eq_false (show ¬ 64 ≤ i by omega), if_pos h5, BitVec.getLsbD_ofNat, decide_eq_true h5]
      simp
    rw [e1, ← hdg, show (16 : Nat) ^ d = 2 ^ (4 * d) by rw [Nat.pow_mul], show (16 : Nat) = 2 ^ 4 from rfl, Nat.testBit_mod_two_pow, Nat.testBit_div_two_pow, decide_eq_true h4, Bool.true_and, Nat.add_comm]
  · rw [decide_eq_false h4, Bool.and_false]
    exact (bit_ge (n := 4) (by omega) (by omega)).symm
def itx (d : Int) : Nat → (Nat → Int) → Nat → Int
  | 0, c => c
  | t + 1, c => mulx d (itx d t c)
def mC (m : Nat → Nat) : Nat → Nat → Int
  | 0 => fun i => if i = 0 then 1 else 0
  | d + 1 => itx (d : Int) (m d) (mC m d)
theorem mulx_hi {d : Int} {c : Nat → Int} {g : Nat} (h : ∀ i, g < i → c i = 0) : ∀ i, g + 1 < i → mulx d c i = 0 := by
  intro i hi
  cases i with
  | zero => omega
  | succ i =>
    show c i - d * c (i + 1) = 0
    rw [h i (by omega), h (i + 1) (by omega), Int.mul_zero]; rfl
theorem itx_hi {d : Int} {c : Nat → Int} {g : Nat} (h : ∀ i, g < i → c i = 0) : ∀ t i, g + t < i → itx d t c i = 0 := by
  intro t
  induction t with
  | zero => intro i hi; exact h i (by omega)
  | succ t ih => exact fun i hi => mulx_hi (g := g + t) ih i (by omega)
theorem mC_hi {m : Nat → Nat} : ∀ d i, sumN d m < i → mC m d i = 0 := by
  intro d
  induction d with
  | zero => intro i hi; exact if_neg (by omega)
  | succ d ih =>
    intro i hi
    rw [sumN_s] at hi
    exact itx_hi ih (m d) i hi
theorem itx_ev {d k : Int} {c : Nat → Int} {g : Nat} (h : ∀ i, g < i → c i = 0) : ∀ t, g + t ≤ 12 → evL 13 (itx d t c) k = evL 13 c k * (k - d) ^ t := by
  intro t
  induction t with
  | zero => intro _; show evL 13 c k = _; rw [Int.pow_zero, Int.mul_one]
  | succ t ih =>
    intro ht
    show evL 13 (mulx d (itx d t c)) k = _
    rw [evL_mulx (itx_hi h t 12 (by omega)), ih (by omega), Int.pow_succ, Int.mul_comm, Int.mul_assoc]
theorem mC_ev {m : Nat → Nat} {k : Nat} : ∀ d, sumN d m ≤ 12 → evL 13 (mC m d) (k : Int) = fkM m (k : Int) d := by
  intro d
  induction d with
  | zero =>
    intro _
    show evL 13 (fun i => if i = 0 then 1 else 0) _ = 1
    rw [evL_s, evL_congr 12 _ (fun _ => 0) _ (fun i _ => if_neg (by omega)), evL_0, Int.mul_zero]
    rfl
  | succ d ih =>
    intro h
    rw [sumN_s] at h
    show evL 13 (itx (d : Int) (m d) (mC m d)) _ = _
    rw [itx_ev (mC_hi d) (m d) h, ih (by omega), fkM_s]
theorem sumN_mono {m : Nat → Nat} : ∀ a b, a ≤ b → sumN a m ≤ sumN b m := by
  intro a b h
  induction b with
  | zero => rw [show a = 0 by omega]; exact Nat.le_refl _
  | succ b ih =>
    by_cases e : a = b + 1
    · rw [e]; exact Nat.le_refl _
    · have := ih (by omega)
      rw [sumN_s]; omega
theorem neg_L {d : Nat} (hd : d < 2 ^ 30) : (- nI d).toInt64 = LI (- (d : Int)) := by
  have := toL (a := 0) (b := d) (by omega) hd
  rw [show nI 0 - nI d = - nI d from Int32.zero_sub _] at this
  rw [this]
  congr 1
  omega
theorem Pol_add_ok {F : Nat} {vs : Int32} {pw pr : Nat → Int64} {m : Nat → Nat} {C : Nat → Int} (hm : ∀ d, m d < 16) (hs : sumN 12 m ≤ 12) (hpw : ∀ i, i < 13 → pw i = LI (C i)) (hF : 100 < F) : OK (m_Pol_addProduct F vs pw pr (LI ((pkM m 12 : Nat) : Int))) (fun r => ∀ i, i < 13 → r.1 i = LI (C i + mC m 12 i)) := by
  unfold m_Pol_addProduct
  rw [gC_t (show inb 0 13 = true from inb_nI (i := 0) (by omega) (by omega)), show (0 : Int32).toNatClampNeg = 0 from rfl]
  generalize hPP : (fun r : (Nat → Int64) × (Nat → Int64) => ∀ i, i < 13 → r.1 i = LI (C i + mC m 12 i)) = PP
  refine OK_for 12 (fun d z => ∃ p : Nat → Int64, z = (nI (sumN d m), nI d, p) ∧ ∀ i, i < 13 → p i = LI (mC m d i)) ?_ ?_ F 0 _ (by omega) ⟨_, rfl, fun i hi => ?_⟩ (by omega)
  · rintro k1 z ⟨p, rfl, hp⟩
    try dsimp only
    rw [if_pos (show (12 : Int32) ≤ nI 12 from nI_le (Nat.le_refl _) (by omega))]
    refine OK_for (sumN 12 m + 1) (fun i z => ∃ w : Nat → Int64, z = (nI i, w) ∧ (∀ j, j < i → w j = LI (C j + mC m 12 j)) ∧ ∀ j, i ≤ j → w j = pw j) ?_ ?_ F 0 _ (by omega) ⟨pw, rfl, fun j hj => by omega, fun _ _ => rfl⟩ (by omega)
    · rintro k2 z ⟨w, rfl, h1, h2⟩
      try dsimp only
      rw [if_pos (nI_lt (by omega) (by omega)), ← hPP]
      refine OK_some (fun i hi => ?_)
      show w i = _
      by_cases q : i < sumN 12 m + 1
      · exact h1 i q
      · rw [h2 i (by omega), hpw i hi, mC_hi 12 i (by omega), Int.add_zero]
    · rintro k2 i z hi ⟨w, rfl, h1, h2⟩ hk2
      try dsimp only
      rw [if_neg (nI_nlt (by omega) (by omega)), gC_t (inb_nI (by omega) (by omega)), gC_t (inb_nI (by omega) (by omega)), gC_t (inb_nI (by omega) (by omega)), gB_eq, nI_1, nI_clamp (by omega), h2 i (Nat.le_refl _), hpw i (by omega), hp i (by omega), LI_add]
      refine hk2 _ ⟨_, rfl, fun j hj => ?_, fun j hj => by rw [pk_uLn (by omega)]; exact h2 j (by omega)⟩
      by_cases e : j = i
      · subst e; rw [pk_uLs]
      · rw [pk_uLn e]; exact h1 j (by omega)
  · rintro k1 d z hd ⟨p, rfl, hp⟩ hk1
    try dsimp only
    have hsd := sumN_mono (m := m) (d + 1) 12 (by omega)
    rw [sumN_s] at hsd
    rw [if_neg (show ¬ (12 : Int32) ≤ nI d from nI_ge (a := d) (b := 12) hd (by omega)), times_of hm hd, gB_eq]
    refine OK_for (m d) (fun t z => ∃ p : Nat → Int64, z = (nI (sumN d m + t), nI t, p) ∧ ∀ i, i < 13 → p i = LI (itx (d : Int) t (mC m d) i)) ?_ ?_ F 0 _ (Nat.zero_le _) ⟨p, rfl, hp⟩ (by omega)
    · rintro k2 z ⟨p, rfl, hp⟩
      try dsimp only
      rw [if_pos (nI_le (Nat.le_refl _) (by omega)), gB_eq, nI_1]
      exact hk1 _ ⟨p, by rw [sumN_s], hp⟩
    · rintro k2 t z ht ⟨p, rfl, hp⟩ hk2
      try dsimp only
      rw [if_neg (nI_ge ht (by omega)), if_neg (show ¬ (12 : Int32) ≤ nI (sumN d m + t) from nI_ge (b := 12) (by omega) (by omega)), gB_eq, nI_1 (sumN d m + t)]
      have hchi : ∀ i, sumN d m + t < i → itx (d : Int) t (mC m d) i = 0 := itx_hi (mC_hi d) t
      generalize hc : itx (d : Int) t (mC m d) = c at hp hchi
      have hfin : itx (d : Int) (t + 1) (mC m d) = mulx (d : Int) c := by show mulx _ (itx _ t _) = _; rw [hc]
      refine OK_gLm (fun j z => ∃ p : Nat → Int64, z = (nI j, p) ∧ j ≤ sumN d m + t + 1 ∧ (∀ i, i ≤ j → i < 13 → p i = LI (c i)) ∧ ∀ i, j < i → i < 13 → p i = LI (mulx (d : Int) c i)) ?_ F (sumN d m + t + 1) _ ⟨p, rfl, Nat.le_refl _, fun i _ h2 => hp i h2, fun i h1 h2 => by rw [hp i h2, hchi i (by omega), mulx_hi hchi i h1]⟩ (by omega)
      rintro k3 j z ⟨p, rfl, hj, h1, h2⟩ hk3
      try dsimp only
      cases j with
      | zero =>
        rw [if_pos (show nI 0 ≤ 0 by decide), gC_t (show inb 0 13 = true from inb_nI (i := 0) (by omega) (by omega)), gC_t (show inb 0 13 = true from inb_nI (i := 0) (by omega) (by omega)), gB_eq, nI_1, neg_L (by omega), h1 0 (Nat.le_refl _) (by omega), LI_mul]
        refine hk2 _ ⟨_, rfl, fun i hi => ?_⟩
        rw [hfin]
        by_cases e : i = 0
        · subst e; rw [pk_uLs]; rfl
        · rw [pk_uLn e]; exact h2 i (by omega) hi
      | succ j =>
        have e1 : nI (j + 1) - 1 = nI j := pk_sub (b := 1) (by omega)
        have e2 : nI (j + 1) + (-1) = nI j := by rw [m1_at (j + 1) (by omega), e1]
        rw [if_neg (show ¬ nI (j + 1) ≤ 0 from nI_ge (a := 0) (b := j + 1) (by omega) (by omega)), e1, gC_t (inb_nI (by omega) (by omega)), gC_t (inb_nI (by omega) (by omega)), gC_t (inb_nI (by omega) (by omega)), gB_eq, e2, nI_clamp (by omega), nI_clamp (by omega), toL1 (by omega), h1 j (by omega) (by omega), h1 (j + 1) (Nat.le_refl _) (by omega), LI_mul, LI_sub]
        refine hk3 j _ (by omega) ⟨_, rfl, by omega, fun i h3 h4 => by rw [pk_uLn (by omega)]; exact h1 i (by omega) h4, fun i h3 h4 => ?_⟩
        by_cases e : i = j + 1
        · subst e; rw [pk_uLs]; rfl
        · rw [pk_uLn e]; exact h2 i (by omega) h4
  · show _ = LI (if i = 0 then 1 else 0)
    by_cases e : i = 0
    · subst e; rw [pk_uLs, if_pos rfl]; rfl
    · rw [pk_uLn e, if_neg e]
      unfold fillA
      rw [if_pos hi]; rfl
