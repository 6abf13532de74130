/-! PURE, 54: the polynomial of the reference -/
def polOK (near : Nat → Int32) (n : Nat) (pw : Nat → Int64) : Prop := ∀ i, i < 14 → pw i = LI (pco (nr0 near) n (2 ^ n - 1) i)
def prevC (c : Nat → Int) : Nat → Int
  | 0 => 0
  | i + 1 => c i
theorem mulx_p (d : Int) (c : Nat → Int) : ∀ i, mulx d c i = prevC c i - d * c i
  | 0 => by show - d * c 0 = 0 - d * c 0; rw [Int.neg_mul]; omega
  | _ + 1 => rfl
theorem LI_sub (a b : Int) : LI a - LI b = LI (a - b) := (Int64.ofInt_sub a b).symm
theorem ix13 (s j : Nat) : (13 : Int32) * nI s + nI j = nI (13 * s + j) := by
  rw [show (13 : Int32) * nI s = nI (13 * s) from pk_mul 13 s, nI_add']
theorem ix13_inj {s j s' j' : Nat} (hj : j < 13) (hj' : j' < 13) (h : 13 * s + j = 13 * s' + j') : s = s' ∧ j = j' := by omega
theorem low_nI {n S l : Nat} (hn : n ≤ 12) (hS : S < 2 ^ n) (hl : isLow S l) : nI S &&& (- nI S) = nI (2 ^ l) := by
  apply b_ext
  intro i hi
  rw [b_and, b_neg _ hi, bt_nI _ hi, bt_nI _ hi, Nat.testBit_two_pow]
  by_cases q : S.testBit i = true
  · by_cases e : l = i
    · subst e
      have : ¬ ∃ j, j < l ∧ bt (nI S) j = true := fun ⟨j, hj, hb⟩ => hl.2 j hj (by rw [bt_nI _ (by omega)] at hb; exact hb)
      rw [hl.1, decide_eq_true rfl, decide_eq_false this]; rfl
    · have : ∃ j, j < i ∧ bt (nI S) j = true := by
        refine ⟨l, ?_, by rw [bt_nI _ (by have := bit_lt hS hl.1; omega)]; exact hl.1⟩
        rcases Nat.lt_trichotomy l i with w | w | w
        · exact w
        · exact absurd w e
        · exact absurd q (hl.2 i w)
      rw [q, decide_eq_false e, decide_eq_true this]; rfl
  · have e : ¬ l = i := fun e => q (by rw [← e]; exact hl.1)
    have qf : S.testBit i = false := by cases h : S.testBit i with | false => rfl | true => exact absurd h q
    rw [qf, decide_eq_false e]; rfl
theorem xor_low {S l : Nat} (hl : S.testBit l = true) : S ^^^ 2 ^ l = rmB S l := by
  apply bit_eq
  intro i
  have hsb : sbN (2 ^ l) S := fun i hi => by
    rw [Nat.testBit_two_pow, decide_eq_true_iff] at hi
    rw [← hi]; exact hl
  rw [xor_sub hsb, rmB_bit, Nat.testBit_two_pow, decide_eq_true_iff]
  exact ⟨fun w => ⟨w.1, fun e => w.2 e.symm⟩, fun w => ⟨w.1, fun e => w.2 e.symm⟩⟩
/-- the blocks of the lowest node, in a row -/
theorem spA_row {nr : Nat → Nat → Prop} {n j S l : Nat} (hS : S < 2 ^ n) (hl : isLow S l) : spA nr n (j + 1) S = sumR (subg (rmB S l) (fun t x => iN nr (t ||| 2 ^ l) * spA nr n j x)) (rmB S l + 1) := by
  have hln := bit_lt hS hl.1
  have hr := rmB_lt (v := l) hS
  rw [spA_s hl]
  have e1 : pp n S (fun t x => if t.testBit l = true then iN nr t * spA nr n j x else 0) = pp n S (fun t x => if t.testBit l = true then (fun t x => iN nr (t ||| 2 ^ l) * spA nr n j x) (rmB t l) x else 0) := pp_congr n S _ _ hS (fun t x ht hx hc => by
    by_cases q : t.testBit l = true
    · rw [if_pos q, if_pos q]
      show _ = iN nr (rmB t l ||| 2 ^ l) * _
      have : rmB t l ||| 2 ^ l = t := by
        apply bit_eq
        intro i
        rw [or_bit, rmB_bit]
        constructor
        · rintro (w | w)
          · exact w.1
          · rw [w]; exact q
        · intro w
          by_cases e : i = l
          · exact Or.inr e
          · exact Or.inl ⟨w, e⟩
      rw [this]
    · rw [if_neg q, if_neg q])
  refine Eq.trans e1 (Eq.trans (pp_left (h := fun t x => iN nr (t ||| 2 ^ l) * spA nr n j x) hS hln hl.1) ?_)
  rw [pp_range n _ _ hr]
  exact sumR_gap (2 ^ n) (by omega) (fun t h1 h2 => by
    unfold subg
    refine if_neg (fun z => ?_)
    have := sbN_le (and_eq_iff.mp z)
    omega)
def spOK (nr : Nat → Nat → Prop) (n s : Nat) (sp : Nat → Int64) : Prop := ∀ s', s' < s → ∀ j, j ≤ n → sp (13 * s' + j) = LI (spA nr n j s')
theorem Mo_polynomial_ok {F n : Nat} {tt a y zz e1 e2 : Int32} {near ia : Nat → Int32} {next splits powers : Nat → Int64} (hn : n ≤ 12) (hw : ¬ e1 = 0 → polOK near n powers) (hF : 5000 < F) : OK (m_Mo_polynomial F tt (nI n) a y zz e1 e2 near ia next splits powers) (fun r => ¬ r.1 = 0 ∧ polOK near n r.2.2.2.2) := by
  have hp := pow_le12 hn
  have hp1 : 1 ≤ 2 ^ n := Nat.one_le_two_pow
  unfold m_Mo_polynomial
  by_cases h0 : e1 = 0
  · rw [if_pos h0]
    refine OK_gM (Mo_sets_ok hn hF) ?_
    intro ia2 hia
    try dsimp only
    rw [gB_eq, nI_mask hn]
    generalize hPP : (fun r : Int32 × (Nat → Int32) × (Nat → Int64) × (Nat → Int64) × (Nat → Int64) => ¬ r.1 = 0 ∧ polOK near n r.2.2.2.2) = PP
    refine OK_for (2 ^ n) (fun s z => ∃ sp : Nat → Int64, z = (nI s, sp) ∧ spOK (nr0 near) n s sp) ?_ ?_ F 0 _ (Nat.zero_le _) ⟨splits, rfl, fun s hs => by omega⟩ (by omega)
    · rintro k1 z ⟨sp, rfl, hsp⟩
      try dsimp only
      rw [if_pos (nI_lt (by omega) (by omega))]
      refine OK_for 14 (fun i z => ∃ pw : Nat → Int64, z = (nI i, pw) ∧ ∀ i', i' < i → pw i' = LI 0) ?_ ?_ F 0 _ (by omega) ⟨powers, rfl, fun i hi => by omega⟩ (by omega)
      · rintro k2 z ⟨pw, rfl, hpw⟩
        try dsimp only
        rw [if_pos (show (13 : Int32) < nI 14 from nI_lt (a := 13) (by omega) (by omega))]
        refine OK_for (n + 1) (fun j z => ∃ nx pw : Nat → Int64, z = (nI j, nx, pw) ∧ ∀ i, i < 14 → pw i = LI (sumR (fun j => spA (nr0 near) n j (2 ^ n - 1) * fc j i) j)) ?_ ?_ F 0 _ (by omega) ⟨next, pw, rfl, fun i hi => hpw i hi⟩ (by omega)
        · rintro k3 z ⟨nx, pw, rfl, hpw⟩
          try dsimp only
          rw [if_pos (nI_lt (by omega) (by omega)), ← hPP]
          exact OK_some ⟨show ¬ (1 : Int32) = 0 by decide, fun i hi => hpw i hi⟩
        · rintro k3 j z hj ⟨nx, pw, rfl, hpw⟩ hk3
          try dsimp only
          rw [if_neg (nI_nlt (by omega) (by omega))]
          refine OK_for 14 (fun i z => ∃ nx : Nat → Int64, z = (nI i, nx) ∧ ∀ i', i' < i → nx i' = LI (fc 0 i')) ?_ ?_ F 0 _ (by omega) ⟨nx, rfl, fun i hi => by omega⟩ (by omega)
          · rintro k4 z ⟨nx, rfl, hnx⟩
            try dsimp only
            rw [if_pos (show (13 : Int32) < nI 14 from nI_lt (a := 13) (by omega) (by omega))]
            refine OK_for j (fun d z => ∃ nx : Nat → Int64, z = (nI d, nx) ∧ ∀ i', i' < 14 → nx i' = LI (fc d i')) ?_ ?_ F 0 _ (by omega) ⟨nx, rfl, hnx⟩ (by omega)
            · rintro k5 z ⟨nx, rfl, hnx⟩
              try dsimp only
              rw [if_pos (nI_le (Nat.le_refl _) (by omega))]
              refine OK_for 14 (fun i z => ∃ pw2 : Nat → Int64, z = (nI i, pw2) ∧ (∀ i', i' < i → pw2 i' = LI (sumR (fun j => spA (nr0 near) n j (2 ^ n - 1) * fc j i') (j + 1))) ∧ ∀ i', i ≤ i' → pw2 i' = pw i') ?_ ?_ F 0 _ (by omega) ⟨pw, rfl, fun i hi => by omega, fun _ _ => rfl⟩ (by omega)
              · rintro k6 z ⟨pw2, rfl, h1, h2⟩
                try dsimp only
                rw [if_pos (show (13 : Int32) < nI 14 from nI_lt (a := 13) (by omega) (by omega)), gB_eq, nI_1]
                exact hk3 _ ⟨nx, pw2, rfl, h1⟩
              · rintro k6 i z hi ⟨pw2, rfl, h1, h2⟩ hk6
                try dsimp only
                rw [if_neg (show ¬ (13 : Int32) < nI i from nI_nlt (a := 13) (by omega) (by omega)), gC_t (inb_nI hi (by omega)), ix13, gC_t (inb_nI (by omega) (by omega)), gC_t (inb_nI (by omega) (by omega)), gC_t (inb_nI hi (by omega)), gB_eq, nI_1, nI_clamp (by omega), nI_clamp (by omega)]
                refine hk6 _ ⟨_, rfl, fun i' hi' => ?_, fun i' hi' => ?_⟩
                · by_cases e : i' = i
                  · subst e
                    rw [pk_uLs, h2 i' (Nat.le_refl _), hpw i' hi, hsp (2 ^ n - 1) (by omega) j (by omega), hnx i' hi, LI_mul, LI_add, sumR_s]
                  · rw [pk_uLn e]; exact h1 i' (by omega)
                · rw [pk_uLn (by omega)]; exact h2 i' (by omega)
            · rintro k5 d z hd ⟨nx, rfl, hnx⟩ hk5
              try dsimp only
              rw [if_neg (nI_ge hd (by omega))]
              refine OK_gLm (fun m z => ∃ nx2 : Nat → Int64, z = (nI m - 1, nx2) ∧ m ≤ 14 ∧ (∀ i, i < m → nx2 i = LI (fc d i)) ∧ ∀ i, m ≤ i → i < 14 → nx2 i = LI (fc (d + 1) i)) ?_ F 14 _ ⟨nx, rfl, Nat.le_refl _, hnx, fun i h1 h2 => by omega⟩ (by omega)
              rintro k6 m z ⟨nx2, rfl, hm, h1, h2⟩ hk6
              try dsimp only
              cases m with
              | zero =>
                rw [if_pos (show nI 0 - 1 < 0 by decide), gB_eq, nI_1]
                exact hk5 _ ⟨nx2, rfl, fun i hi => h2 i (Nat.zero_le _) hi⟩
              | succ i =>
                have e : nI (i + 1) - 1 = nI i := pk_sub (b := 1) (by omega)
                have e' : nI i + (-1) = nI i - 1 := by
                  have := need_le i (by omega) 0 (by omega)
                  rw [show nI i - nI 0 = nI i from pk_sub (b := 0) (by omega)] at this
                  exact this.2
                rw [e, if_neg (show ¬ nI i < 0 from nI_nlt (a := i) (b := 0) (Nat.zero_le _) (by omega))]
                refine OK_gBQ (fun J => ∀ x : Int, prevC (fc d) i = x → OK (J (LI x)) PP) ?_ ?_
                · intro x hx
                  try dsimp only
                  rw [gC_t (inb_nI (by omega) (by omega)), gC_t (inb_nI (by omega) (by omega)), gB_eq, nI_clamp (by omega), h1 i (by omega), toL1 (by omega), LI_mul, LI_sub, e']
                  refine hk6 i _ (by omega) ⟨_, rfl, by omega, fun i' hi' => by rw [pk_uLn (by omega)]; exact h1 i' (by omega), fun i' h3 h4 => ?_⟩
                  by_cases e2 : i' = i
                  · subst e2
                    rw [pk_uLs]
                    congr 1
                    show _ = mulx (d : Int) (fc d) i'
                    rw [mulx_p, hx]
                  · rw [pk_uLn e2]; exact h2 i' (by omega) h4
                · intro J hJ
                  try dsimp only
                  cases i with
                  | zero =>
                    rw [if_pos (show nI 0 ≤ 0 by decide)]
                    exact hJ 0 rfl
                  | succ i =>
                    rw [if_neg (show ¬ nI (i + 1) ≤ 0 from nI_ge (a := 0) (b := i + 1) (by omega) (by omega)), show nI (i + 1) - 1 = nI i from pk_sub (b := 1) (by omega), gC_t (inb_nI (by omega) (by omega)), nI_clamp (by omega), h1 i (by omega)]
                    exact hJ _ rfl
          · rintro k4 i z hi ⟨nx, rfl, hnx⟩ hk4
            try dsimp only
            rw [if_neg (show ¬ (13 : Int32) < nI i from nI_nlt (a := 13) (by omega) (by omega))]
            refine OK_gBQ (fun J => OK (J (LI (fc 0 i))) PP) ?_ ?_
            · try dsimp only
              rw [gC_t (inb_nI (by omega) (by omega)), gB_eq, nI_1, nI_clamp (by omega)]
              refine hk4 _ ⟨_, rfl, fun i' hi' => ?_⟩
              by_cases e : i' = i
              · subst e; rw [pk_uLs]
              · rw [pk_uLn e]; exact hnx i' (by omega)
            · intro J hJ
              try dsimp only
              have ef : fc 0 i = if i = 0 then 1 else 0 := rfl
              by_cases e : i = 0
              · rw [if_pos (show nI i = 0 by rw [e]; rfl)]
                rw [ef, if_pos e] at hJ
                exact hJ
              · rw [if_neg (nI_nz e (by omega))]
                rw [ef, if_neg e] at hJ
                exact hJ
      · rintro k2 i z hi ⟨pw, rfl, hpw⟩ hk2
        try dsimp only
        rw [if_neg (show ¬ (13 : Int32) < nI i from nI_nlt (a := 13) (by omega) (by omega)), gC_t (inb_nI hi (by omega)), gB_eq, nI_1, nI_clamp (by omega)]
        refine hk2 _ ⟨_, rfl, fun i' hi' => ?_⟩
        by_cases e : i' = i
        · subst e; rw [pk_uLs]; rfl
        · rw [pk_uLn e]; exact hpw i' (by omega)
    · rintro k1 s z hs ⟨sp, rfl, hsp⟩ hk1
      try dsimp only
      rw [if_neg (nI_nlt (by omega) (by omega))]
      refine OK_for (n + 1) (fun j z => ∃ sp : Nat → Int64, z = (nI j, sp) ∧ spOK (nr0 near) n s sp ∧ ∀ j', j' < j → sp (13 * s + j') = LI (if s = 0 ∧ j' = 0 then 1 else 0)) ?_ ?_ F 0 _ (by omega) ⟨sp, rfl, hsp, fun j hj => by omega⟩ (by omega)
      · rintro k2 z ⟨sp, rfl, hsp, hs0⟩
        try dsimp only
        rw [if_pos (nI_lt (by omega) (by omega))]
        by_cases hz : s = 0
        · subst hz
          have e00 : nI 0 &&& (- nI 0) = nI 0 := by decide
          rw [gB_eq, gB_eq, e00]
          refine OK_gB ?_
          try dsimp only
          rw [if_pos (show nI 0 ≤ 0 by decide)]
          obtain ⟨F', rfl⟩ : ∃ F', F = F' + 1 := ⟨F - 1, by omega⟩
          rw [gL_s]
          try dsimp only
          rw [if_pos rfl, gB_eq, nI_1]
          refine hk1 _ ⟨sp, rfl, fun s' hs' j hj => ?_⟩
          have : s' = 0 := by omega
          subst this
          rw [hs0 j (by omega)]
          congr 1
          cases j with
          | zero => rw [if_pos ⟨rfl, rfl⟩]; rfl
          | succ j => rw [if_neg (by omega)]; rfl
        · obtain ⟨l, hl⟩ := lowS_ex hz
          have hln := bit_lt hs hl.1
          have hr := rmB_lt (v := l) hs
          have hpl : 2 ^ l < 2 ^ n := Nat.pow_lt_pow_right (by omega) hln
          rw [gB_eq, gB_eq, low_nI hn hs hl, nx_xor, xor_low hl.1]
          refine OK_gB ?_
          try dsimp only
          rw [if_neg (show ¬ nI s ≤ 0 from nI_ge (a := 0) (b := s) (by omega) (by omega))]
          have hrow : ∀ j, spA (nr0 near) n (j + 1) s = sumR (subg (rmB s l) (fun t x => iN (nr0 near) (t ||| 2 ^ l) * spA (nr0 near) n j x)) (rmB s l + 1) := fun j => spA_row hs hl
          have hoff := rmB_off s l
          generalize hrs : rmB s l = rest at *
          generalize hG : (fun j => subg rest (fun t x => iN (nr0 near) (t ||| 2 ^ l) * spA (nr0 near) n j x)) = G
          have hrow' : ∀ j, spA (nr0 near) n (j + 1) s = sumR (G j) (rest + 1) := fun j => by rw [hrow j, ← hG]
          refine OK_gLm (fun m z => (∃ (t : Nat) (sp : Nat → Int64) (B : Nat → Int), z = (1, nI t, sp) ∧ m = t + 1 ∧ sbN t rest ∧ spOK (nr0 near) n s sp ∧ sp (13 * s + 0) = LI 0 ∧ ∀ j, j < n → sp (13 * s + (j + 1)) = LI (B j) ∧ B j + sumR (G j) (t + 1) = sumR (G j) (rest + 1)) ∨ (∃ (x : Int32) (sp : Nat → Int64), z = (0, x, sp) ∧ m = 0 ∧ spOK (nr0 near) n (s + 1) sp)) ?_ F (rest + 1) _ (Or.inl ⟨rest, sp, fun _ => 0, rfl, rfl, sbN_refl _, hsp, by rw [hs0 0 (by omega), if_neg (fun w => hz w.1)], fun j hj => ⟨by rw [hs0 (j + 1) (by omega), if_neg (fun w => hz w.1)], show (0 : Int) + _ = _ by omega⟩⟩) (by omega)
          rintro k3 m z (⟨t, sp, B, rfl, rfl, ht, hsp, hsp0, hB⟩ | ⟨x, sp, rfl, rfl, hsp⟩) hk3
          · have htl : t < 2 ^ n := Nat.lt_of_le_of_lt (sbN_le ht) hr
            have hor : t ||| 2 ^ l < 2 ^ n := Nat.or_lt_two_pow htl hpl
            have hxl : rest ^^^ t < 2 ^ n := Nat.xor_lt_two_pow hr htl
            have hxs : rest ^^^ t < s := by
              have h1 := sbN_le (xor_sb ht)
              have h2 := rm_sub hl.1
              have h3 : 0 < 2 ^ l := Nat.pow_pos (by omega)
              rw [hrs] at h2
              omega
            try dsimp only
            rw [if_neg (show ¬ (1 : Int32) = 0 by decide), nx_or, gC_t (inb_nI (by omega) (by omega)), nI_clamp (by omega)]
            have hGt : ∀ j, G j t = iN (nr0 near) (t ||| 2 ^ l) * spA (nr0 near) n j (rest ^^^ t) := fun j => by
              rw [← hG]
              show subg rest _ t = _
              unfold subg
              rw [if_pos (and_eq_iff.mpr ht)]
            have fin : ∀ sp2 : Nat → Int64, spOK (nr0 near) n s sp2 → sp2 (13 * s + 0) = LI 0 → (∀ j, j < n → sp2 (13 * s + (j + 1)) = LI (B j + G j t)) → OK (gB (α := Int32 → Option (Int32 × (Nat → Int32) × (Nat → Int64) × (Nat → Int64) × (Nat → Int64))) (fun s_59 =>
                gB ((nI t - 1) &&& nI rest) (fun x6_60 =>
                k3 (s_59, x6_60, sp2))
              ) (fun J_176 =>
              if nI t ≤ 0 then (
                J_176 0
              ) else (
                J_176 1
              )
              )) PP := by
              intro sp2 g1 g2 g3
              refine OK_gB ?_
              try dsimp only
              by_cases ht0 : t = 0
              · subst ht0
                rw [if_pos (show nI 0 ≤ 0 by decide), gB_eq]
                refine hk3 0 _ (by omega) (Or.inr ⟨_, sp2, rfl, rfl, fun s' hs' j hj => ?_⟩)
                by_cases e : s' = s
                · subst e
                  cases j with
                  | zero =>
                    rw [g2]
                    congr 1
                    exact (if_neg hz).symm
                  | succ j =>
                    rw [g3 j (by omega), hrow' j, ← (hB j (by omega)).2]
                    congr 1
                    show B j + G j 0 = B j + (0 + G j 0)
                    omega
                · exact g1 s' (by omega) j hj
              · rw [if_neg (show ¬ nI t ≤ 0 from nI_ge (a := 0) (b := t) (by omega) (by omega)), gB_eq, show nI t - 1 = nI (t - 1) from pk_sub (b := 1) (by omega), nx_and]
                have hlt : (t - 1) &&& rest < t := Nat.lt_of_le_of_lt Nat.and_le_left (by omega)
                refine hk3 _ _ (Nat.succ_lt_succ hlt) (Or.inl ⟨_, sp2, fun j => B j + G j t, rfl, rfl, and_sbN, g1, g2, fun j hj => ⟨g3 j hj, ?_⟩⟩)
                rw [← (hB j hj).2, sumR_s (G j) t]
                have : sumR (G j) t = sumR (G j) (((t - 1) &&& rest) + 1) := by
                  refine sumR_gap t hlt (fun x h1 h2 => ?_)
                  rw [← hG]
                  show subg rest _ x = 0
                  unfold subg
                  refine if_neg (fun w => ?_)
                  have := prevSub t rest x (sbN_and ht) w h2
                  omega
                rw [this]
                show B j + G j t + _ = _
                omega
            refine OK_gBQ (fun J => ∀ sp2 : Nat → Int64, spOK (nr0 near) n s sp2 → sp2 (13 * s + 0) = LI 0 → (∀ j, j < n → sp2 (13 * s + (j + 1)) = LI (B j + G j t)) → OK (J sp2) PP) ?_ ?_
            · intro sp2 g1 g2 g3
              try dsimp only
              exact fin sp2 g1 g2 g3
            · intro J hJ
              try dsimp only
              rcases hia (t ||| 2 ^ l) hor with ⟨i1, i2⟩ | ⟨i1, i2⟩
              · rw [if_neg (by rw [i1]; decide)]
                have hi1 : iN (nr0 near) (t ||| 2 ^ l) = 1 := iN_1 i2
                refine OK_for (n + 1) (fun j z => ∃ sp2 : Nat → Int64, z = (nI j, sp2) ∧ 1 ≤ j ∧ spOK (nr0 near) n s sp2 ∧ sp2 (13 * s + 0) = LI 0 ∧ (∀ j', j' < n → j' + 1 < j → sp2 (13 * s + (j' + 1)) = LI (B j' + G j' t)) ∧ ∀ j', j' < n → j ≤ j' + 1 → sp2 (13 * s + (j' + 1)) = LI (B j')) ?_ ?_ F 1 _ (by omega) ⟨sp, rfl, Nat.le_refl _, hsp, hsp0, fun j' h1 h2 => by omega, fun j' h1 _ => (hB j' h1).1⟩ (by omega)
                · rintro k4 z ⟨sp2, rfl, -, g1, g2, g3, -⟩
                  try dsimp only
                  rw [if_pos (nI_lt (by omega) (by omega))]
                  exact hJ sp2 g1 g2 (fun j hj => g3 j hj (by omega))
                · rintro k4 j z hj ⟨sp2, rfl, hj1, g1, g2, g3, g4⟩ hk4
                  try dsimp only
                  obtain ⟨j0, rfl⟩ : ∃ j0, j = j0 + 1 := ⟨j - 1, by omega⟩
                  rw [if_neg (nI_nlt (by omega) (by omega)), ix13, gC_t (inb_nI (by omega) (by omega)), nx_xor, ix13, show nI (13 * (rest ^^^ t) + (j0 + 1)) - 1 = nI (13 * (rest ^^^ t) + j0) from by
                    rw [show nI (13 * (rest ^^^ t) + (j0 + 1)) - 1 = nI (13 * (rest ^^^ t) + (j0 + 1) - 1) from pk_sub (b := 1) (by omega)]
                    rfl, gC_t (inb_nI (by omega) (by omega)), gC_t (inb_nI (by omega) (by omega)), gB_eq, nI_1, nI_clamp (by omega), nI_clamp (by omega), g4 j0 (by omega) (by omega), g1 (rest ^^^ t) hxs j0 (by omega), LI_add]
                  refine hk4 _ ⟨_, rfl, by omega, fun s' hs' j' hj' => ?_, ?_, fun j' h1 h2 => ?_, fun j' h1 h2 => ?_⟩
                  · rw [pk_uLn (by omega)]; exact g1 s' hs' j' hj'
                  · rw [pk_uLn (by omega)]; exact g2
                  · by_cases e : j' = j0
                    · subst e
                      rw [pk_uLs, hGt j', hi1, Int.one_mul]
                    · rw [pk_uLn (by omega)]; exact g3 j' h1 (by omega)
                  · rw [pk_uLn (by omega)]; exact g4 j' h1 (by omega)
              · rw [if_pos i1]
                refine hJ sp hsp hsp0 (fun j hj => ?_)
                rw [(hB j hj).1, hGt j, iN_0 i2, Int.zero_mul, Int.add_zero]
          · try dsimp only
            rw [if_pos rfl, gB_eq, nI_1]
            exact hk1 _ ⟨sp, rfl, hsp⟩
      · rintro k2 j z hj ⟨sp, rfl, hsp, hs0⟩ hk2
        try dsimp only
        rw [if_neg (nI_nlt (by omega) (by omega))]
        refine OK_gBQ (fun J => OK (J (LI (if s = 0 ∧ j = 0 then 1 else 0))) PP) ?_ ?_
        · try dsimp only
          rw [ix13, gC_t (inb_nI (by omega) (by omega)), gB_eq, nI_1, nI_clamp (by omega)]
          refine hk2 _ ⟨_, rfl, fun s' hs' j' hj' => ?_, fun j' hj' => ?_⟩
          · rw [pk_uLn (by omega)]; exact hsp s' hs' j' hj'
          · by_cases e : j' = j
            · subst e; rw [pk_uLs]
            · rw [pk_uLn (by omega)]; exact hs0 j' (by omega)
        · intro J hJ
          try dsimp only
          refine OK_gB ?_
          try dsimp only
          by_cases q1 : s = 0
          · rw [if_pos (show nI s = 0 by rw [q1]; rfl)]
            by_cases q2 : j = 0
            · rw [if_pos (show nI j = 0 by rw [q2]; rfl)]
              rw [if_pos ⟨q1, q2⟩] at hJ
              exact hJ
            · rw [if_neg (nI_nz q2 (by omega))]
              rw [if_neg (fun w => q2 w.2)] at hJ
              exact hJ
          · rw [if_neg (nI_nz q1 (by omega))]
            rw [if_neg (fun w => q1 w.1)] at hJ
            exact hJ
  · rw [if_neg h0]
    exact OK_some ⟨h0, hw h0⟩
/-- the value, from the highest power down -/
def horn (pw : Nat → Int64) (x : Int64) : Nat → Int64 → Int64
  | 0, v => v
  | i + 1, v => horn pw x i (v * x + pw i)
theorem horn_eq {pw qw : Nat → Int64} {x : Int64} : ∀ i v, (∀ j, j < i → pw j = qw j) → horn pw x i v = horn qw x i v := by
  intro i
  induction i with
  | zero => intro v _; rfl
  | succ i ih => intro v h; show horn pw x i _ = horn qw x i _; rw [h i (by omega), ih _ (fun j hj => h j (by omega))]
theorem m1_at (i : Nat) (hi : i < 17) : nI i + (-1) = nI i - 1 := by
  have := need_le i hi 0 (by omega)
  rw [show nI i - nI 0 = nI i from pk_sub (b := 0) (by omega)] at this
  exact this.2
theorem Mo_ways_ok {F n : Nat} {tt a y zz e1 e2 : Int32} {near ia : Nat → Int32} {next splits powers : Nat → Int64} {x : Int64} (hn : n ≤ 12) (hw : ¬ e1 = 0 → polOK near n powers) (hF : 5000 < F) : OK (m_Mo_ways F tt (nI n) a y zz e1 e2 near ia next splits powers x) (fun r => r.1 = horn (fun i => LI (pco (nr0 near) n (2 ^ n - 1) i)) x (n + 1) 0 ∧ r.2.1 = 0 ∧ ¬ r.2.2.1 = 0 ∧ polOK near n r.2.2.2.2.2.2) := by
  unfold m_Mo_ways
  refine OK_gM (Mo_polynomial_ok hn hw hF) ?_
  rintro ⟨h2, ia2, nx2, sp2, pw2⟩ ⟨g1, g2⟩
  try dsimp only at g1 g2 ⊢
  rw [horn_eq (qw := pw2) (n + 1) 0 (fun j hj => (g2 j (by omega)).symm)]
  refine OK_gLm (fun m z => ∃ v : Int64, z = (v, nI m - 1) ∧ m ≤ 13 ∧ horn pw2 x m v = horn pw2 x (n + 1) 0) ?_ F (n + 1) _ ⟨0, by rw [show nI (n + 1) - 1 = nI n from pk_sub (b := 1) (by omega)], by omega, rfl⟩ (by omega)
  rintro k1 m z ⟨v, rfl, hm, hv⟩ hk1
  try dsimp only
  cases m with
  | zero =>
    rw [if_pos (show nI 0 - 1 < 0 by decide)]
    exact OK_some ⟨hv, rfl, g1, g2⟩
  | succ i =>
    rw [show nI (i + 1) - 1 = nI i from pk_sub (b := 1) (by omega), if_neg (show ¬ nI i < 0 from nI_nlt (a := i) (b := 0) (Nat.zero_le _) (by omega)), gC_t (inb_nI (by omega) (by omega)), gB_eq, gB_eq, nI_clamp (by omega), m1_at i (by omega)]
    exact hk1 i _ (by omega) ⟨_, rfl, by omega, hv⟩
theorem Mo_coef_ok {F n i : Nat} {tt a y zz e1 e2 : Int32} {near ia : Nat → Int32} {next splits powers : Nat → Int64} (hn : n ≤ 12) (hi : i ≤ n) (hw : ¬ e1 = 0 → polOK near n powers) (hF : 5000 < F) : OK (m_Mo_coefficient F tt (nI n) a y zz e1 e2 near ia next splits powers (nI i)) (fun r => r.1 = LI (pco (nr0 near) n (2 ^ n - 1) i) ∧ r.2.1 = 0 ∧ ¬ r.2.2.1 = 0 ∧ polOK near n r.2.2.2.2.2.2) := by
  unfold m_Mo_coefficient
  rw [if_neg (show ¬ nI i < 0 from nI_nlt (a := i) (b := 0) (Nat.zero_le _) (by omega)), if_pos (nI_le hi (by omega))]
  refine OK_gM (Mo_polynomial_ok hn hw hF) ?_
  rintro ⟨h2, ia2, nx2, sp2, pw2⟩ ⟨g1, g2⟩
  try dsimp only at g1 g2 ⊢
  rw [gC_t (inb_nI (by omega) (by omega)), nI_clamp (by omega)]
  exact OK_some ⟨g2 i (by omega), rfl, g1, g2⟩
theorem Mo_coef_no {F : Nat} {tt n' a y zz e1 e2 p : Int32} {near ia : Nat → Int32} {next splits powers : Nat → Int64} (hp : p < 0 ∨ ¬ p ≤ n') : m_Mo_coefficient F tt n' a y zz e1 e2 near ia next splits powers p = some (0, 0, e1, ia, next, splits, powers) := by
  unfold m_Mo_coefficient
  rcases hp with hp | hp
  · rw [if_pos hp]
  · by_cases q : p < 0
    · rw [if_pos q]
    · rw [if_neg q, if_neg hp]
