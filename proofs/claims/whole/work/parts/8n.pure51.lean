/-! PURE, 51: listed of the class -/
def LCw (near : Nat → Int32) (n : Nat) (rs : Int32) (we : Nat → Int32) : Prop := ∀ v q S, v < n → bt rs v = true → q < 2 ^ n → IsCl n near ((1 : Int32) <<< (nI v &&& 31)) rs (nI q) → S ≠ 0 → sbN S q → we S = Int32.ofInt (wN near n S)
/-- what the counter by lists keeps -/
def LCI (near : Nat → Int32) (n L : Nat) (ver vs rs : Int32) (we : Nat → Int32) : Prop := vs = ver → 2 ^ n ≤ L ∧ LCw near n rs we
theorem andnot_nI {n W P : Nat} (hn : n ≤ 12) (hW : W < 2 ^ n) (hP : sbN P W) : nI W &&& (nI P ^^^ (-1)) = nI (W ^^^ P) := by
  apply b_ext
  intro i hi
  rw [b_and, b_not _ hi, bt_nI _ hi, bt_nI _ hi, bt_nI _ hi, Nat.testBit_xor]
  have := hP i
  cases hw : W.testBit i <;> cases hp : P.testBit i
  · rfl
  · rw [this hp] at hw; cases hw
  · rfl
  · rfl
theorem LC_loop_ok {F n ka L1 R : Nat} {P0 N0 : Int} {vs1 rs b1 ver : Int32} {o cl1 we1 co1 ga1 near tail head : Nat → Int32} {su1 : Nat → Int64} (h : GR n ka near tail head) (hR : R < 2 ^ n) (hL : 2 ^ n ≤ L1) (hL2 : L1 < 2 ^ 31) (hI : vs1 = ver → LCw near n rs we1) (hN : P0 * wy (al0 o) (nrR near n) n 12 R = N0) (hF : 5000 < F) : OK (
      gB (α := Int32 → Option (Int64 × Int32 × Int32 × Int32 × (Nat → Int32) × Nat × (Nat → Int32) × Nat × (Nat → Int32) × Nat × (Nat → Int32) × Nat × (Nat → Int32) × Nat × (Nat → Int64))) (fun s_26 =>
        gL (fun (k_107 : (Int64 × Int32 × Int32 × (Nat → Int32) × (Nat → Int32) × (Nat → Int32) × (Nat → Int32) × (Nat → Int64)) → Option (Int64 × Int32 × Int32 × Int32 × (Nat → Int32) × Nat × (Nat → Int32) × Nat × (Nat → Int32) × Nat × (Nat → Int32) × Nat × (Nat → Int32) × Nat × (Nat → Int64))) (z_107 : Int64 × Int32 × Int32 × (Nat → Int32) × (Nat → Int32) × (Nat → Int32) × (Nat → Int32) × (Nat → Int64)) => match z_107 with
        | (x3_27, x6_28, x7_29, w0_clash_30, w0_weight_31, w0_common_32, w0_gain_33, w0_sum_34) =>
        if (nI n) ≤ x7_29 then (
          some (x3_27, (nI R), ver, (nI R), o, L1, w0_clash_30, L1, w0_weight_31, L1, w0_common_32, L1, w0_gain_33, L1, w0_sum_34)
        ) else (
          if ((x6_28 >>> (x7_29 &&& 31)) &&& 1) = 0 then (
            gB (x7_29 + 1) (fun x7_37 =>
            k_107 (x3_27, x6_28, x7_37, w0_clash_30, w0_weight_31, w0_common_32, w0_gain_33, w0_sum_34))
          ) else (
            gM (m_Net_partOf F (nI n) b1 ver near ((1 : Int32) <<< (x7_29 &&& 31)) (nI R)) (fun q_38 =>
            gB (x6_28 &&& (q_38 ^^^ (-1))) (fun x6_41 =>
            gB (α := (Nat → Int32) → (Nat → Int32) → Option (Int64 × Int32 × Int32 × Int32 × (Nat → Int32) × Nat × (Nat → Int32) × Nat × (Nat → Int32) × Nat × (Nat → Int32) × Nat × (Nat → Int32) × Nat × (Nat → Int64))) (fun w0_clash_42 w0_weight_43 =>
              gM (m_LC_countPart F (nI R) ver (nI R) o L1 w0_weight_43 L1 w0_common_32 L1 w0_gain_33 L1 w0_sum_34 q_38) (fun (z_49 : Int64 × (Nat → Int32) × (Nat → Int32) × (Nat → Int64)) => match z_49 with
              | (q_44, w0_common_45, w0_gain_46, w0_sum_47) =>
              gB (x3_27 * q_44) (fun x3_51 =>
              gB (x7_29 + 1) (fun x7_52 =>
              k_107 (x3_51, x6_41, x7_52, w0_clash_42, w0_weight_43, w0_common_45, w0_gain_46, w0_sum_47))))
            ) (fun J_161 =>
            if s_26 = 0 then (
              gM (m_LC_weighSetsOf F (nI R) ver (nI R) L1 w0_clash_30 L1 w0_weight_31 (nI n) b1 ver near q_38) (fun (z_57 : (Nat → Int32) × (Nat → Int32)) => match z_57 with
              | (w0_clash_54, w0_weight_55) =>
              J_161 w0_clash_54 w0_weight_55)
            ) else (
              J_161 w0_clash_30 w0_weight_31
            )
            )))
          )
        )
        ) F ((LI P0), (nI R), 0, cl1, we1, co1, ga1, su1)
      ) (fun J_80 =>
      gB (α := Option (Int64 × Int32 × Int32 × Int32 × (Nat → Int32) × Nat × (Nat → Int32) × Nat × (Nat → Int32) × Nat × (Nat → Int32) × Nat × (Nat → Int32) × Nat × (Nat → Int64))) (
        J_80 0
      ) (fun J_79 =>
      if vs1 = ver then (
        if rs = (nI R) then (
          J_80 1
        ) else (
          J_79
        )
      ) else (
        J_79
      )
      )
      )) (fun r => r.1 = LI N0 ∧ ∃ (r0' vs' rs' : Int32) (op' cl' we' co' ga' : Nat → Int32) (su' : Nat → Int64), r.2 = (r0', vs', rs', op', L1, cl', L1, we', L1, co', L1, ga', L1, su') ∧ LCI near n L1 ver vs' rs' we') := by
  have hn := h.1
  have hp := pow_le12 hn
  have hsym := nrR_sym h
  have hwN := wN_ok h
  have bR : ∀ i, i < 32 → (bt (nI R) i = true ↔ R.testBit i = true) := fun i hi => by rw [bt_nI R hi]
  generalize hPP : (fun r : Int64 × Int32 × Int32 × Int32 × (Nat → Int32) × Nat × (Nat → Int32) × Nat × (Nat → Int32) × Nat × (Nat → Int32) × Nat × (Nat → Int32) × Nat × (Nat → Int64) => r.1 = LI N0 ∧ ∃ (r0' vs' rs' : Int32) (op' cl' we' co' ga' : Nat → Int32) (su' : Nat → Int64), r.2 = (r0', vs', rs', op', L1, cl', L1, we', L1, co', L1, ga', L1, su') ∧ LCI near n L1 ver vs' rs' we') = PP
  refine OK_gBQ (fun J => ∀ s : Int32, (¬ s = 0 → LCw near n (nI R) we1) → OK (J s) PP) ?_ ?_
  · intro s hs
    try dsimp only
    refine OK_for n (fun v z => ∃ (P : Int) (W : Nat) (cl we co ga : Nat → Int32) (su : Nat → Int64), z = (LI P, nI W, nI v, cl, we, co, ga, su) ∧ sbN W R ∧ (∀ i j, W.testBit i = true → R.testBit j = true → nrR near n i j → W.testBit j = true) ∧ (∀ i, i < v → ¬ W.testBit i = true) ∧ P * wy (al0 o) (nrR near n) n 12 W = N0 ∧ (¬ s = 0 → LCw near n (nI R) we) ∧ (∀ u q S, u < n → R.testBit u = true → ¬ W.testBit u = true → q < 2 ^ n → IsCl n near ((1 : Int32) <<< (nI u &&& 31)) (nI R) (nI q) → S ≠ 0 → sbN S q → we S = Int32.ofInt (wN near n S))) ?_ ?_ F 0 _ (Nat.zero_le _) ⟨P0, R, cl1, we1, co1, ga1, su1, rfl, sbN_refl _, fun i j _ hj _ => hj, fun i hi => by omega, hN, hs, fun u q S _ h1 h2 => absurd h1 h2⟩ (by omega)
    · rintro k1 z ⟨P, W, cl, we, co, ga, su, rfl, hW, hWc, hWv, hPW, hwd, hdone⟩
      try dsimp only
      rw [if_pos (nI_le (Nat.le_refl _) (by omega)), ← hPP]
      have hW0 : W = 0 := Classical.byContradiction (fun q => by
        obtain ⟨i, hi⟩ := nz_bit q
        exact hWv i (bit_lt hR (hW i hi)) hi)
      subst hW0
      rw [wy_z, Int.mul_one] at hPW
      refine OK_some ⟨by rw [hPW], _, _, _, _, _, _, _, _, _, rfl, fun _ => ⟨hL, fun v q S hv hb hq hc h0 hS => ?_⟩⟩
      exact hdone v q S hv ((bR v (by omega)).mp hb) (by rw [Nat.zero_testBit]; decide) hq hc h0 hS
    · rintro k1 v z hv ⟨P, W, cl, we, co, ga, su, rfl, hW, hWc, hWv, hPW, hwd, hdone⟩ hk1
      have hWl : W < 2 ^ n := Nat.lt_of_le_of_lt (sbN_le hW) hR
      try dsimp only
      rw [if_neg (nI_ge hv (by omega))]
      by_cases hvW : W.testBit v = true
      · rw [if_neg (fun w => (bit_0 (by omega)).mp w hvW)]
        refine OK_gM (Net_partOf_ok h (fun i hi hb => by
          rw [b_one (by omega) hi, decide_eq_true_iff] at hb
          omega) (by omega)) ?_
        rintro q ⟨hcl, hqn⟩
        obtain ⟨Q, hQl, rfl⟩ := mask_of (x := q) (w := n) (fun i h1 h2 => bt_f (fun w => by have := hqn i h2 w; omega))
        have bQ : ∀ i, i < 32 → (bt (nI Q) i = true ↔ Q.testBit i = true) := fun i hi => by rw [bt_nI Q hi]
        have hvQ : Q.testBit v = true := (bQ v (by omega)).mp (hcl.1 v (by omega) (by rw [b_one (by omega) (by omega)]; exact decide_eq_true rfl))
        have hQW : sbN Q W := fun i hi => by
          have hin := bit_lt hQl hi
          exact hcl.2.2 (fun x => W.testBit x = true) (fun x hx hb => by
            rw [b_one (by omega) hx, decide_eq_true_iff] at hb
            rw [hb]; exact hvW) (fun x y hx hy hxW hb hyR => by
            have hyR' := (bR y hy).mp hyR
            exact hWc x y hxW hyR' ⟨hx, bit_lt hR hyR', hb⟩) i (by omega) ((bQ i (by omega)).mpr hi)
        have hQc : ∀ i j, Q.testBit i = true → R.testBit j = true → nrR near n i j → Q.testBit j = true := fun i j hi hj hij => (bQ j (by have := hij.2.1; omega)).mp (hcl.2.1 i j hij.1 (by have := hij.2.1; omega) ((bQ i (by have := hij.1; omega)).mpr hi) hij.2.2 ((bR j (by have := hij.2.1; omega)).mpr hj))
        rw [gB_eq, andnot_nI hn hWl hQW]
        have hXW : ∀ i, (W ^^^ Q).testBit i = true ↔ W.testBit i = true ∧ ¬ Q.testBit i = true := fun i => xor_sub hQW
        have hXl : W ^^^ Q < 2 ^ n := Nat.xor_lt_two_pow hWl hQl
        have hwy : wy (al0 o) (nrR near n) n 12 W = wy (al0 o) (nrR near n) n 12 Q * wy (al0 o) (nrR near n) n 12 (W ^^^ Q) := by
          rw [← wy_two 12 Q (W ^^^ Q) hQl hXl (fun i w => ((hXW i).mp w.2).2 w.1) (fun i j hi hj => ⟨fun w => ((hXW j).mp hj).2 (hQc i j hi (hW j ((hXW j).mp hj).1) w), fun w => ((hXW j).mp hj).2 (hQc i j hi (hW j ((hXW j).mp hj).1) (hsym _ _ w))⟩)]
          congr 1
          apply bit_eq
          intro i
          rw [Nat.testBit_or, Bool.or_eq_true, hXW]
          constructor
          · intro w
            by_cases z : Q.testBit i = true
            · exact Or.inl z
            · exact Or.inr ⟨w, z⟩
          · rintro (w | w)
            · exact hQW i w
            · exact w.1
        refine OK_gBQ (fun J => ∀ cl2 we2 : Nat → Int32, (¬ s = 0 → LCw near n (nI R) we2) → (∀ S, S ≠ 0 → sbN S Q → we2 S = Int32.ofInt (wN near n S)) → (∀ S, ¬ sbN S Q → we2 S = we S) → OK (J cl2 we2) PP) ?_ ?_
        · intro cl2 we2 g1 g2 g3
          try dsimp only
          refine OK_gM (LC_part_ok h hwN hQl (bit_nz hvQ) hL hL2 g2 hF) ?_
          rintro ⟨pr, co2, ga2, su2⟩ rfl
          try dsimp only
          rw [gB_eq, LI_mul, gB_eq, nI_1]
          refine hk1 _ ⟨_, W ^^^ Q, cl2, we2, co2, ga2, su2, rfl, fun i hi => hW i ((hXW i).mp hi).1, fun i j hi hj hij => ?_, fun i hi w => ?_, ?_, g1, fun u q S hu huR huW hq hc2 h0 hS => ?_⟩
          · have h1 := (hXW i).mp hi
            exact (hXW j).mpr ⟨hWc i j h1.1 hj hij, fun z => h1.2 (hQc j i z (hW i h1.1) (hsym _ _ hij))⟩
          · have h1 := (hXW i).mp w
            by_cases e : i = v
            · subst e; exact h1.2 hvQ
            · exact hWv i (by omega) h1.1
          · rw [← hPW, hwy, Int.mul_assoc]
          · have bq : ∀ i, i < 32 → (bt (nI q) i = true ↔ q.testBit i = true) := fun i hi => by rw [bt_nI q hi]
            by_cases huW2 : W.testBit u = true
            · have huQ : Q.testBit u = true := Classical.byContradiction (fun z => huW ((hXW u).mpr ⟨huW2, z⟩))
              have hqQ : sbN q Q := fun i hi => by
                have hin := bit_lt hq hi
                exact hc2.2.2 (fun x => Q.testBit x = true) (fun x hx hb => by
                  rw [b_one (by omega) hx, decide_eq_true_iff] at hb
                  rw [hb]; exact huQ) (fun x y hx hy hxQ hb hyR => by
                  have hyR' := (bR y hy).mp hyR
                  exact hQc x y hxQ hyR' ⟨hx, bit_lt hR hyR', hb⟩) i (by omega) ((bq i (by omega)).mpr hi)
              exact g2 S h0 (sbN_trans hS hqQ)
            · have hqW : ∀ i, q.testBit i = true → ¬ W.testBit i = true := fun i hi => by
                have hin := bit_lt hq hi
                have := hc2.2.2 (fun x => R.testBit x = true ∧ ¬ W.testBit x = true) (fun x hx hb => by
                  rw [b_one (by omega) hx, decide_eq_true_iff] at hb
                  rw [hb]; exact ⟨huR, huW2⟩) (fun x y hx hy hxQ hb hyR => by
                  have hyR' := (bR y hy).mp hyR
                  refine ⟨hyR', fun z => hxQ.2 (hWc y x z hxQ.1 (hsym _ _ ⟨hx, bit_lt hR hyR', hb⟩))⟩) i (by omega) ((bq i (by omega)).mpr hi)
                exact this.2
              obtain ⟨x, hx⟩ := nz_bit h0
              rw [g3 S (fun z => hqW x (hS x hx) (hQW x (z x hx)))]
              exact hdone u q S hu huR huW2 hq hc2 h0 hS
        · intro J hJ
          try dsimp only
          by_cases hs0 : s = 0
          · rw [if_pos hs0]
            refine OK_gM (LC_weighSets_ok h hwN hQl hL hL2 hF) ?_
            rintro ⟨cl2, we2⟩ ⟨g1, g2⟩
            exact hJ cl2 we2 (fun z => absurd hs0 z) g1 g2
          · rw [if_neg hs0]
            exact hJ cl we hwd (fun S h0 hS => hwd hs0 v Q S hv ((bR v (by omega)).mpr (hW v hvW)) hQl hcl h0 hS) (fun _ _ => rfl)
      · rw [if_pos ((bit_0 (by omega)).mpr hvW), gB_eq, nI_1]
        refine hk1 _ ⟨P, W, cl, we, co, ga, su, rfl, hW, hWc, fun i hi w => ?_, hPW, hwd, hdone⟩
        by_cases e : i = v
        · subst e; exact hvW w
        · exact hWv i (by omega) w
  · intro J hJ
    try dsimp only
    refine OK_gB ?_
    try dsimp only
    by_cases h1 : vs1 = ver
    · rw [if_pos h1]
      by_cases h2 : rs = nI R
      · rw [if_pos h2]
        exact hJ 1 (fun _ => by rw [← h2]; exact hI h1)
      · rw [if_neg h2]
        exact hJ 0 (fun z => absurd rfl z)
    · rw [if_neg h1]
      exact hJ 0 (fun z => absurd rfl z)
theorem LC_count_ok {F n ka L : Nat} {r0 vs rs b1 ver : Int32} {op cl we co ga near tail head al : Nat → Int32} {su : Nat → Int64} (h : GR n ka near tail head) (hal : hi12 al n) (hL2 : L < 2 ^ 31) (hver : ¬ ver = -1) (hI : LCI near n L ver vs rs we) (hF : 5000 < F) : OK (m_LC_count F r0 vs rs op L cl L we L co L ga L su (nI n) b1 ver near al) (fun r => r.1 = LI (wy (al0 al) (nrR near n) n 12 (2 ^ n - 1)) ∧ ∃ L' : Nat, (L' = L ∨ (L < 2 ^ n ∧ L' = 2 ^ n)) ∧ ∃ (r0' vs' rs' : Int32) (op' cl' we' co' ga' : Nat → Int32) (su' : Nat → Int64), r.2 = (r0', vs', rs', op', L', cl', L', we', L', co', L', ga', L', su') ∧ LCI near n L' ver vs' rs' we') := by
  have hn := h.1
  have hp := pow_le12 hn
  have hp1 : 1 ≤ 2 ^ n := Nat.one_le_two_pow
  unfold m_LC_count
  rw [gC_t (cpyB_n (by omega) (by omega) (by omega)), show (0 : Int32).toNatClampNeg = 0 from rfl, nI_clamp (by omega)]
  refine OK_gM (P' := fun a => a = nI (2 ^ n - 1)) ⟨_, rfl, by show ((1 : Int32) <<< (nI n &&& 31)) - 1 = _; exact nI_mask hn⟩ ?_
  rintro _ rfl
  have hop0 : ∀ v, v < n → va_cpy al op 0 0 n v = al v := fun v hv => sb_cpy0 hv
  refine OK_gM (LC_simple_ok h (by omega) (fun v hv c h1 h2 => by rw [hop0 v hv]; exact hal v hv c h1 h2) (by omega)) ?_
  rintro ⟨q, rest, o⟩ ⟨P0, R, rfl, rfl, hRs, ho, hN⟩
  try dsimp only at ho hN ⊢
  have hR : R < 2 ^ n := Nat.lt_of_le_of_lt (sbN_le hRs) (by omega)
  have hN2 : wy (al0 (va_cpy al op 0 0 n)) (nrR near n) n 12 (2 ^ n - 1) = wy (al0 al) (nrR near n) n 12 (2 ^ n - 1) := wy_congr 12 _ (by omega) (fun i c hi _ => by
    show bt (va_cpy al op 0 0 n i) c = true ↔ bt (al i) c = true
    rw [hop0 i (full_bit.mp hi)])
  rw [hN2] at hN
  by_cases hz : lg_cmp (LI P0) 0 = 0
  · rw [if_pos hz]
    have hz' : LI P0 = 0 := by
      unfold lg_cmp at hz
      by_cases q1 : LI P0 > 0
      · rw [if_pos q1] at hz; exact absurd hz (by decide)
      · rw [if_neg q1] at hz
        by_cases q2 : LI P0 = 0
        · exact q2
        · rw [if_neg q2] at hz; exact absurd hz (by decide)
    refine OK_some ⟨?_, L, Or.inl rfl, _, _, _, _, _, _, _, _, _, rfl, hI⟩
    rw [← hN, ← LI_mul, hz', Int64.zero_mul]
  · rw [if_neg hz]
    by_cases hR0 : nI R = 0
    · rw [if_pos hR0]
      have hR0' : R = 0 := nI_inj (by omega) (by omega) (hR0.trans nI_0.symm)
      refine OK_some ⟨?_, L, Or.inl rfl, _, _, _, _, _, _, _, _, _, rfl, hI⟩
      rw [← hN, hR0', wy_z, Int.mul_one]
    · rw [if_neg hR0, one_shl hn]
      unfold m_LC_makeRoom
      by_cases hL : 2 ^ n ≤ L
      · refine OK_gM (P' := fun a => a = _) ⟨_, if_pos (nI_le hL hL2), rfl⟩ ?_
        rintro _ rfl
        refine OK_mono (LC_loop_ok h hR hL hL2 (fun e => (hI e).2) hN hF) ?_
        rintro r ⟨h1, h2⟩
        exact ⟨h1, L, Or.inl rfl, h2⟩
      · refine OK_gM (P' := fun a => a = ((-1 : Int32), 2 ^ n, (fun _ => (0 : Int32)), 2 ^ n, (fun _ => (0 : Int32)), 2 ^ n, (fun _ => (0 : Int32)), 2 ^ n, (fun _ => (0 : Int32)), 2 ^ n, (fun _ => (0 : Int64)))) ⟨_, ?_, rfl⟩ ?_
        · rw [if_neg (nI_ge (by omega) (by omega)), if_neg (show ¬ nI (2 ^ n) ≤ 0 from nI_ge (a := 0) (b := 2 ^ n) (by omega) (by omega)), nI_clamp (by omega), gC_t (decide_eq_true (by omega))]
        · rintro _ rfl
          refine OK_mono (LC_loop_ok (L1 := 2 ^ n) h hR (Nat.le_refl _) (by omega) (fun e => absurd e.symm hver) hN hF) ?_
          rintro r ⟨h1, h2⟩
          exact ⟨h1, 2 ^ n, Or.inr ⟨by omega, rfl⟩, h2⟩
theorem CS_listed_ok {F n ka L : Nat} {r0 vs rs b1 ver : Int32} {op cl we co ga near tail head al : Nat → Int32} {su : Nat → Int64} (h : GR n ka near tail head) (hal : hi12 al n) (hL2 : L < 2 ^ 31) (hver : ¬ ver = -1) (hI : LCI near n L ver vs rs we) (hF : 5000 < F) : OK (m_CS_listed F (nI n) b1 ver near r0 vs rs op L cl L we L co L ga L su al) (fun r => r.1 = LI (wy (al0 al) (nr0 near) n 12 (2 ^ n - 1)) ∧ ∃ L' : Nat, (L' = L ∨ (L < 2 ^ n ∧ L' = 2 ^ n)) ∧ ∃ (r0' vs' rs' : Int32) (op' cl' we' co' ga' : Nat → Int32) (su' : Nat → Int64), r.2 = (r0', vs', rs', op', L', cl', L', we', L', co', L', ga', L', su') ∧ LCI near n L' ver vs' rs' we') := by
  have hp1 : 1 ≤ 2 ^ n := Nat.one_le_two_pow
  unfold m_CS_listed
  refine OK_gM (LC_count_ok h hal hL2 hver hI hF) ?_
  rintro ⟨q, r0', vs', rs', op', l1, cl', l2, we', l3, co', l4, ga', l5, su'⟩ ⟨h1, L', h2, r0'', vs'', rs'', op'', cl'', we'', co'', ga'', su'', h3, h4⟩
  refine OK_some ⟨?_, L', h2, r0'', vs'', rs'', op'', cl'', we'', co'', ga'', su'', h3, h4⟩
  rw [wy_R (by omega)]
  exact h1
