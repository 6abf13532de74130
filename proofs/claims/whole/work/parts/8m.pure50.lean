/-! PURE, 50: the counter's sums over blocks -/
theorem nI_ofI (k : Nat) : nI k = Int32.ofInt (k : Int) := by
  apply Int32.toBitVec_inj.1
  show BitVec.ofNat 32 k = BitVec.ofInt 32 (k : Int)
  rw [BitVec.ofInt_natCast]
theorem ofI_L {z : Int} (h1 : -2147483648 ≤ z) (h2 : z < 2147483648) : (Int32.ofInt z).toInt64 = LI z := by
  rw [← Int64.ofInt_int32ToInt, Int32.toInt_ofInt_of_le (by omega) (by omega)]
def cmOK (op : Nat → Int32) (S : Nat) (x : Int32) : Prop := ∀ c, c < 32 → (bt x c = true ↔ c < 12 ∧ ∀ i, S.testBit i = true → bt (op i) c = true)
theorem cm_bc {op : Nat → Int32} {S : Nat} {x : Int32} (h : cmOK op S x) : ∀ c, c ≤ 12 → cm (al0 op) c S = (bc x c : Int) := by
  intro c
  induction c with
  | zero => intro _; rfl
  | succ c ih =>
    intro hc
    show cm (al0 op) c S + _ = _
    rw [ih (by omega), bc_s]
    by_cases q : bt x c = true
    · rw [if_pos q, if_pos (show ∀ i, S.testBit i = true → al0 op i c from ((h c (by omega)).mp q).2)]; omega
    · rw [if_neg q, if_neg (show ¬ ∀ i, S.testBit i = true → al0 op i c from fun z => q ((h c (by omega)).mpr ⟨by omega, z⟩))]; omega
theorem bitc_cm {op : Nat → Int32} {S : Nat} {x : Int32} (h : cmOK op S x) : bitc x = nI (bc x 12) := by
  have hb : ∀ i, 12 ≤ i → i < 32 → bt x i = false := fun i h1 h2 => bt_f (fun w => by have := ((h i h2).mp w).1; omega)
  rw [bitc_b16 (fun i h1 h2 => hb i (by omega) h2), bc_hi (n := 12) (m := 16) (by omega) (fun i h1 h2 => hb i h1 (by omega))]
theorem LC_gains_ok {F n L P : Nat} {a1 a2 a3 : Int32} {op we co ga : Nat → Int32} {w : Nat → Int} (hn : n ≤ 12) (hP : P < 2 ^ n) (hL : 2 ^ n ≤ L) (hL2 : L < 2 ^ 31) (hwe : ∀ S, S ≠ 0 → sbN S P → we S = Int32.ofInt (w S)) (hF : 5000 < F) : OK (m_LC_findGains F a1 a2 a3 op L we L co L ga (nI P)) (fun r => ∀ S, S ≠ 0 → sbN S P → r.2 S = Int32.ofInt (w S * cm (al0 op) 12 S)) := by
  have hp := pow_le12 hn
  have hpc := pcN_le n P
  have hpow : (2 : Nat) ^ pcN n P ≤ 4096 := pow_le12 (by omega)
  have hpow1 : 1 ≤ 2 ^ pcN n P := Nat.one_le_two_pow
  have hp1 : 1 ≤ 2 ^ n := Nat.one_le_two_pow
  have hcast : ((2 : Int) ^ (pcN n P)) = ((2 ^ pcN n P : Nat) : Int) := by rw [Int.natCast_pow]; rfl
  unfold m_LC_findGains
  rw [gB_eq, size_of hn hP, gC_t (show inb 0 L = true from inb_nI (i := 0) (by omega) hL2), show (0 : Int32).toNatClampNeg = 0 from rfl]
  refine OK_for (2 ^ pcN n P) (fun i z => ∃ (x : Nat) (co ga : Nat → Int32), z = (nI x, nI i, co, ga) ∧ sbN x P ∧ RK P x + 1 = i ∧ (∀ S, S ≤ x → sbN S P → cmOK op S (co S)) ∧ (∀ S, S ≠ 0 → S ≤ x → sbN S P → ga S = Int32.ofInt (w S * cm (al0 op) 12 S))) ?_ ?_ F 1 _ hpow1 ⟨0, _, ga, rfl, sbN_0 _, rfl, fun S hS _ => ?_, fun S h0 hS _ => by omega⟩ (by omega)
  · rintro k1 z ⟨x, co, ga, rfl, hx, hi, hco, hga⟩
    try dsimp only
    rw [if_pos (nI_le (Nat.le_refl _) (by omega))]
    have e := RK_last hP hx (by rw [hcast]; exact hi)
    subst e
    exact OK_some (fun S h0 hS => hga S h0 (sbN_le hS) hS)
  · rintro k1 i z hi ⟨x, co, ga, rfl, hx, hix, hco, hga⟩ hk1
    try dsimp only
    have hne := RK_less hP hx (by rw [hcast]; omega)
    obtain ⟨y1, y2, y3⟩ := nxt_ok hx hne
    have hyl : nxt P x < 2 ^ n := Nat.lt_of_le_of_lt (sbN_le y1) hP
    have hRy := RK_nxt hx hne
    rw [if_neg (nI_ge hi (by omega)), gB_eq, nxt_nI hn hP hx hne]
    generalize hy : nxt P x = S at *
    have hS0 : S ≠ 0 := by omega
    obtain ⟨l, hl⟩ := lowS_ex hS0
    have hln := bit_lt hyl hl.1
    have hr := rmB_lt (v := l) hyl
    have hle : ∀ T, T ≤ S → sbN T P → T ≠ S → T ≤ x := fun T hT hTP e => by
      rcases Nat.lt_or_ge x T with q | q
      · have := y3 T hTP q; omega
      · exact q
    have hrmne : rmB S l ≠ S := fun e => rmB_off S l (by rw [e]; exact hl.1)
    have hrmP := sbN_trans (rmB_sb S l) y1
    have hcr := hco _ (hle _ (sbN_le (rmB_sb S l)) hrmP hrmne) hrmP
    rw [show nI S - 1 = nI (S - 1) from pk_sub (b := 1) (by omega), nx_and, and_pred hl, gC_t (inb_nI (by omega) hL2)]
    refine OK_gM (P' := fun a => a = nI l) ⟨_, lowestOf_low hn hyl hl, rfl⟩ ?_
    rintro _ rfl
    rw [gC_t (inb_nI (by omega) (by omega)), gC_t (inb_nI (by omega) hL2), gC_t (inb_nI (by omega) hL2), gC_t (inb_nI (by omega) hL2), gC_t (inb_nI (by omega) hL2), gB_eq, nI_1, nI_clamp (by omega), nI_clamp (by omega), nI_clamp (by omega), upd_same]
    have hcS : cmOK op S ((co (rmB S l)) &&& (op l)) := by
      intro c hc
      rw [b_and, Bool.and_eq_true, hcr c hc]
      constructor
      · rintro ⟨⟨w1, w2⟩, w3⟩
        refine ⟨w1, fun j hj => ?_⟩
        by_cases e : j = l
        · rw [e]; exact w3
        · exact w2 j (rmB_bit.mpr ⟨hj, e⟩)
      · rintro ⟨w1, w2⟩
        exact ⟨⟨w1, fun j hj => w2 j (rmB_bit.mp hj).1⟩, w2 l hl.1⟩
    refine hk1 _ ⟨S, _, _, rfl, y1, by omega, fun T hT hTP => ?_, fun T h0 hT hTP => ?_⟩
    · by_cases e : T = S
      · subst e; rw [upd_same]; exact hcS
      · rw [upd_ne e]; exact hco T (hle T hT hTP e) hTP
    · by_cases e : T = S
      · subst e
        rw [upd_same, hwe T h0 hTP, bitc_cm hcS, nI_ofI, ← Int32.ofInt_mul, cm_bc hcS 12 (Nat.le_refl _)]
      · rw [upd_ne e]; exact hga T h0 (hle T hT hTP e) hTP
  · have : S = 0 := by omega
    subst this
    rw [upd_same]
    intro c hc
    rw [b_4095 c hc, decide_eq_true_iff]
    exact ⟨fun w => ⟨w, fun i hi => by rw [Nat.zero_testBit] at hi; cases hi⟩, fun w => w.1⟩
theorem cm_range {al : Nat → Nat → Prop} {S : Nat} : ∀ c, 0 ≤ cm al c S ∧ cm al c S ≤ c := by
  intro c
  induction c with
  | zero => exact ⟨Int.le_refl _, Int.le_refl _⟩
  | succ c ih =>
    show 0 ≤ cm al c S + _ ∧ cm al c S + _ ≤ _
    by_cases q : ∀ i, S.testBit i = true → al i c
    · rw [if_pos q]; omega
    · rw [if_neg q]; omega
theorem LC_blocks_ok {F n L S l : Nat} {a1 a2 a3 : Int32} {ga : Nat → Int32} {su : Nat → Int64} {G Fs : Nat → Int} (hn : n ≤ 12) (hS : S < 2 ^ n) (hl : isLow S l) (hL : 2 ^ n ≤ L) (hL2 : L < 2 ^ 31) (hE : isE n G Fs) (hga : ∀ T, T ≠ 0 → sbN T S → ga T = Int32.ofInt (G T) ∧ -2147483648 ≤ G T ∧ G T < 2147483648) (hsu : ∀ T, sbN T (rmB S l) → su T = LI (Fs T)) (hF : 5000 < F) : OK (m_LC_sumOverBlocks F a1 a2 a3 L ga L su (nI S)) (fun r => r = LI (Fs S)) := by
  have hp := pow_le12 hn
  have hln := bit_lt hS hl.1
  have hr := rmB_lt (v := l) hS
  have h0 : S ≠ 0 := bit_nz hl.1
  unfold m_LC_sumOverBlocks
  rw [show nI S - 1 = nI (S - 1) from pk_sub (b := 1) (by omega), nx_and, and_pred hl, gB_eq, gB_eq, size_of hn hr]
  have hblk := blk hE hS hl
  have hRS : sbN (rmB S l) S := rmB_sb S l
  have hoff := rmB_off S l
  generalize hhg : rmB S l = hg at *
  have hpc := pcN_le n hg
  have hpow : (2 : Nat) ^ pcN n hg ≤ 4096 := pow_le12 (by omega)
  have hpow1 : 1 ≤ 2 ^ pcN n hg := Nat.one_le_two_pow
  have hcast : ((2 : Int) ^ (pcN n hg)) = ((2 ^ pcN n hg : Nat) : Int) := by rw [Int.natCast_pow]; rfl
  generalize hGG : subg hg (fun b _ => G (S ^^^ b) * Fs b) = GG at hblk
  have htot : Fs S = sumR GG (hg + 1) := by
    rw [hblk]
    exact sumR_gap (2 ^ n) (by omega) (fun t h1 h2 => by
      rw [← hGG]
      unfold subg
      refine if_neg (fun z => ?_)
      have := sbN_le (and_eq_iff.mp z)
      omega)
  rw [htot]
  refine OK_for (2 ^ pcN n hg) (fun i z => ∃ (x : Nat) (A : Int), z = (LI A, nI x, nI i) ∧ ((i < 2 ^ pcN n hg ∧ sbN x hg ∧ RK hg x = i ∧ A = sumR GG x) ∨ (i = 2 ^ pcN n hg ∧ A = sumR GG (hg + 1)))) ?_ ?_ F 0 _ (Nat.zero_le _) ⟨0, 0, rfl, Or.inl ⟨by omega, sbN_0 _, rfl, rfl⟩⟩ (by omega)
  · rintro k1 z ⟨x, A, rfl, hx | ⟨-, hx⟩⟩
    · omega
    · try dsimp only
      rw [if_pos (nI_le (Nat.le_refl _) (by omega)), hx]
      exact OK_some rfl
  · rintro k1 i z hi ⟨x, A, rfl, ⟨-, hx, hRx, hA⟩ | ⟨hx, -⟩⟩ hk1
    · try dsimp only
      have hxl : x < 2 ^ n := Nat.lt_of_le_of_lt (sbN_le hx) hr
      have hxS : sbN x S := sbN_trans hx hRS
      have hSx : S ^^^ x < 2 ^ n := Nat.xor_lt_two_pow hS hxl
      have hSx0 : S ^^^ x ≠ 0 := bit_nz ((xor_sub hxS).mpr ⟨hl.1, fun z => hoff (hx l z)⟩)
      obtain ⟨g1, g2, g3⟩ := hga (S ^^^ x) hSx0 (xor_sb hxS)
      rw [if_neg (nI_ge hi (by omega)), nx_xor, gC_t (inb_nI (by omega) hL2), gC_t (inb_nI (by omega) hL2), nI_clamp (by omega), nI_clamp (by omega), g1, ofI_L g2 g3, hsu x hx, LI_mul, LI_add, gB_eq, gB_eq, gB_eq, nI_1]
      have hGx : GG x = G (S ^^^ x) * Fs x := by
        rw [← hGG]
        unfold subg
        rw [if_pos (and_eq_iff.mpr hx)]
      rw [hA, ← hGx, ← sumR_s]
      by_cases hxe : x = hg
      · subst hxe
        have h1 := RK_all hr
        have h2 := RK_s (sbN_refl x)
        rw [hcast] at h1
        exact hk1 _ ⟨0, _, by rw [show (nI x - nI x) &&& nI x = nI 0 by rw [show nI x - nI x = nI 0 from by rw [pk_sub (Nat.le_refl _), Nat.sub_self], nx_and, Nat.zero_and]], Or.inr ⟨by omega, rfl⟩⟩
      · obtain ⟨y1, y2, y3⟩ := nxt_ok hx hxe
        have hRy := RK_nxt hx hxe
        have h1 := RK_all hr
        have h2 := RK_lt (m := hg) (x := nxt hg x) (y := hg + 1) y1 (by have := sbN_le y1; omega)
        rw [hcast] at h1
        rw [nxt_nI hn hr hx hxe]
        refine hk1 _ ⟨nxt hg x, _, rfl, Or.inl ⟨by omega, y1, by omega, ?_⟩⟩
        exact (sumR_gap _ y2 (fun t h3 h4 => by
          rw [← hGG]
          unfold subg
          refine if_neg (fun z => ?_)
          have := y3 t (and_eq_iff.mp z) (by omega)
          omega)).symm
    · omega
theorem LC_part_ok {F n ka L P : Nat} {a1 a2 a3 : Int32} {op we co ga near tail head : Nat → Int32} {su : Nat → Int64} {w : Nat → Int} (h : GR n ka near tail head) (hw : isW (nrR near n) n w) (hP : P < 2 ^ n) (hP0 : P ≠ 0) (hL : 2 ^ n ≤ L) (hL2 : L < 2 ^ 31) (hwe : ∀ S, S ≠ 0 → sbN S P → we S = Int32.ofInt (w S)) (hF : 5000 < F) : OK (m_LC_countPart F a1 a2 a3 op L we L co L ga L su (nI P)) (fun r => r.1 = LI (wy (al0 op) (nrR near n) n 12 P)) := by
  have hn := h.1
  have hp := pow_le12 hn
  have hp1 : 1 ≤ 2 ^ n := Nat.one_le_two_pow
  obtain ⟨l, hl⟩ := lowS_ex hP0
  have hr := rmB_lt (v := l) hP
  have hE := wy_E (al := al0 op) hw.1 12
  unfold m_LC_countPart
  refine OK_gM (LC_gains_ok hn hP hL hL2 hwe hF) ?_
  rintro ⟨co2, ga2⟩ hga
  try dsimp only at hga ⊢
  have hga2 : ∀ T, T ≠ 0 → sbN T P → ga2 T = Int32.ofInt (w T * cm (al0 op) 12 T) ∧ -2147483648 ≤ w T * cm (al0 op) 12 T ∧ w T * cm (al0 op) 12 T < 2147483648 := by
    intro T hT0 hT
    have hTl : T < 2 ^ n := Nat.lt_of_le_of_lt (sbN_le hT) hP
    have h1 := wN_le hw hn hTl hT0
    have h2 := cm_range (al := al0 op) (S := T) 12
    refine ⟨hga T hT0 hT, ?_, ?_⟩
    · have : -39916800 * 12 ≤ w T * cm (al0 op) 12 T := by
        rcases Int.le_total 0 (w T) with z | z
        · have := Int.mul_nonneg z h2.1
          omega
        · have h3 : (- w T) * cm (al0 op) 12 T ≤ 39916800 * 12 := Int.mul_le_mul (by omega) h2.2 h2.1 (by omega)
          rw [Int.neg_mul] at h3
          omega
      omega
    · have : w T * cm (al0 op) 12 T ≤ 39916800 * 12 := by
        rcases Int.le_total 0 (w T) with z | z
        · exact Int.mul_le_mul h1.2 h2.2 h2.1 (by omega)
        · have h3 : 0 ≤ (- w T) * cm (al0 op) 12 T := Int.mul_nonneg (by omega) h2.1
          rw [Int.neg_mul] at h3
          omega
      omega
  rw [gC_t (show inb 0 L = true from inb_nI (i := 0) (by omega) hL2), show nI P - 1 = nI (P - 1) from pk_sub (b := 1) (by omega), nx_and, and_pred hl, gB_eq, gB_eq, size_of hn hr, show (0 : Int32).toNatClampNeg = 0 from rfl]
  have hRP : sbN (rmB P l) P := rmB_sb P l
  have hsuP : ∀ su : Nat → Int64, (∀ T, sbN T (rmB P l) → su T = LI (wy (al0 op) (nrR near n) n 12 T)) → OK (m_LC_sumOverBlocks F a1 a2 a3 L ga2 L su (nI P)) (fun r => r = LI (wy (al0 op) (nrR near n) n 12 P)) := fun su hsu => LC_blocks_ok hn hP hl hL hL2 hE hga2 hsu hF
  generalize hhg : rmB P l = hg at *
  have hpc := pcN_le n hg
  have hpow : (2 : Nat) ^ pcN n hg ≤ 4096 := pow_le12 (by omega)
  have hpow1 : 1 ≤ 2 ^ pcN n hg := Nat.one_le_two_pow
  have hcast : ((2 : Int) ^ (pcN n hg)) = ((2 ^ pcN n hg : Nat) : Int) := by rw [Int.natCast_pow]; rfl
  refine OK_for (2 ^ pcN n hg) (fun i z => ∃ (x : Nat) (su : Nat → Int64), z = (nI x, nI i, su) ∧ sbN x hg ∧ RK hg x + 1 = i ∧ ∀ T, T ≤ x → sbN T hg → su T = LI (wy (al0 op) (nrR near n) n 12 T)) ?_ ?_ F 1 _ hpow1 ⟨0, _, rfl, sbN_0 _, rfl, fun T hT _ => ?_⟩ (by omega)
  · rintro k1 z ⟨x, su, rfl, hx, hi, hsu⟩
    try dsimp only
    rw [if_pos (nI_le (Nat.le_refl _) (by omega))]
    have e := RK_last hr hx (by rw [hcast]; exact hi)
    subst e
    refine OK_gM (hsuP su (fun T hT => hsu T (sbN_le hT) hT)) ?_
    rintro q rfl
    exact OK_some rfl
  · rintro k1 i z hi ⟨x, su, rfl, hx, hix, hsu⟩ hk1
    try dsimp only
    have hne := RK_less hr hx (by rw [hcast]; omega)
    obtain ⟨y1, y2, y3⟩ := nxt_ok hx hne
    have hyl : nxt hg x < 2 ^ n := Nat.lt_of_le_of_lt (sbN_le y1) hr
    have hRy := RK_nxt hx hne
    rw [if_neg (nI_ge hi (by omega)), gB_eq, nxt_nI hn hr hx hne]
    generalize hy : nxt hg x = S at *
    have hS0 : S ≠ 0 := by omega
    obtain ⟨l2, hl2⟩ := lowS_ex hS0
    refine OK_gM (LC_blocks_ok hn hyl hl2 hL hL2 hE (fun T hT0 hT => hga2 T hT0 (sbN_trans (sbN_trans hT y1) hRP)) (fun T hT => ?_) hF) ?_
    · have hTS := sbN_trans hT (rmB_sb S l2)
      have hTg := sbN_trans hTS y1
      refine hsu T ?_ hTg
      have h1 := sbN_le hT
      have h2 := rm_sub hl2.1
      have h3 : 0 < 2 ^ l2 := Nat.pow_pos (by omega)
      rcases Nat.lt_or_ge x T with q | q
      · have := y3 T hTg q; omega
      · exact q
    · rintro q rfl
      rw [gC_t (inb_nI (by omega) hL2), gB_eq, nI_1, nI_clamp (by omega)]
      refine hk1 _ ⟨S, _, rfl, y1, by omega, fun T hT hTg => ?_⟩
      by_cases e : T = S
      · subst e; rw [pk_uLs]
      · rw [pk_uLn e]
        refine hsu T ?_ hTg
        rcases Nat.lt_or_ge x T with q | q
        · have := y3 T hTg q; omega
        · exact q
  · have : T = 0 := by omega
    subst this
    rw [pk_uLs, wy_z]
    rfl
