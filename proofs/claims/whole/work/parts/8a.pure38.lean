/-! PURE, 38: how many colourings by lists; the reference's count -/
theorem cut_xor {S a b : Nat} (h : cut S a b) : b = S ^^^ a := by
  apply Nat.eq_of_testBit_eq
  intro i
  obtain ⟨h1, h2⟩ := h i
  rw [Nat.testBit_xor]
  cases hs : S.testBit i <;> cases ha : a.testBit i <;> cases hb : b.testBit i <;> simp_all
theorem cut_sb {S a b : Nat} (h : cut S a b) : sbN a S := fun i hi => (h i).1.mpr (Or.inl hi)
theorem sb_cut {S a : Nat} (h : sbN a S) : cut S a (S ^^^ a) := fun i => by
  rw [xor_sub h]
  refine ⟨⟨fun w => ?_, fun w => ?_⟩, fun w => w.2.2 w.1⟩
  · by_cases q : a.testBit i = true
    · exact Or.inl q
    · exact Or.inr ⟨w, q⟩
  · rcases w with w | w
    · exact h i w
    · exact w.1
theorem pp_nn {n S : Nat} {h : Nat → Nat → Int} (hS : S < 2 ^ n) (hh : ∀ a b, a < 2 ^ n → b < 2 ^ n → cut S a b → 0 ≤ h a b) : 0 ≤ pp n S h := by
  have := pp_le n S (fun _ _ => 0) h hS hh
  rwa [pp_0] at this
theorem pp_ex {n S : Nat} {h : Nat → Nat → Int} (hS : S < 2 ^ n) (hp : 0 < pp n S h) : ∃ a b, a < 2 ^ n ∧ b < 2 ^ n ∧ cut S a b ∧ 0 < h a b := by
  refine Classical.byContradiction (fun q => ?_)
  have := pp_le n S h (fun _ _ => 0) hS (fun a b ha hb hc => by
    by_cases w : 0 < h a b
    · exact absurd ⟨a, b, ha, hb, hc, w⟩ q
    · show h a b ≤ 0
      omega)
  rw [pp_0] at this
  omega
theorem sumR_nn {g : Nat → Int} : ∀ b, (∀ t, t < b → 0 ≤ g t) → 0 ≤ sumR g b := by
  intro b
  induction b with
  | zero => intro _; exact Int.le_refl _
  | succ b ih =>
    intro h
    have h1 := ih (fun t ht => h t (by omega))
    have h2 := h b (by omega)
    rw [sumR_s]; omega
theorem sumR_ge {g : Nat → Int} {x : Nat} : ∀ b, (∀ t, t < b → 0 ≤ g t) → x < b → g x ≤ sumR g b := by
  intro b
  induction b with
  | zero => intro _ h; omega
  | succ b ih =>
    intro h hx
    rw [sumR_s]
    have h2 := h b (by omega)
    by_cases e : x = b
    · subst e
      have := sumR_nn x (fun t ht => h t (by omega))
      omega
    · have := ih (fun t ht => h t (by omega)) (by omega)
      omega
theorem pp_ge {n S a : Nat} {h : Nat → Nat → Int} (hS : S < 2 ^ n) (hh : ∀ a b, a < 2 ^ n → b < 2 ^ n → cut S a b → 0 ≤ h a b) (ha : sbN a S) : h a (S ^^^ a) ≤ pp n S h := by
  have hal : a < 2 ^ n := Nat.lt_of_le_of_lt (sbN_le ha) hS
  have hn : ∀ t, t < 2 ^ n → 0 ≤ subg S h t := by
    intro t ht
    unfold subg
    by_cases q : t &&& S = t
    · rw [if_pos q]; exact hh t _ ht (Nat.xor_lt_two_pow hS ht) (sb_cut (and_eq_iff.mp q))
    · rw [if_neg q]; exact Int.le_refl _
  have := sumR_ge (x := a) (2 ^ n) hn hal
  rw [pp_range n S h hS]
  unfold subg at this
  rw [if_pos (and_eq_iff.mpr ha)] at this
  exact this
noncomputable def iT (al nr : Nat → Nat → Prop) (c t : Nat) : Int := @ite Int (okT al nr c t) (Classical.propDecidable _) 1 0
noncomputable def wy (al nr : Nat → Nat → Prop) (n : Nat) : Nat → Nat → Int
  | 0, S => if S = 0 then 1 else 0
  | c + 1, S => pp n S (fun t x => iT al nr c t * wy al nr n c x)
theorem wy_s (al nr : Nat → Nat → Prop) (n c S : Nat) : wy al nr n (c + 1) S = pp n S (fun t x => iT al nr c t * wy al nr n c x) := rfl
theorem iT_1 {al nr : Nat → Nat → Prop} {c t : Nat} (h : okT al nr c t) : iT al nr c t = 1 := if_pos h
theorem iT_0 {al nr : Nat → Nat → Prop} {c t : Nat} (h : ¬ okT al nr c t) : iT al nr c t = 0 := if_neg h
theorem iT_nn (al nr : Nat → Nat → Prop) (c t : Nat) : 0 ≤ iT al nr c t ∧ iT al nr c t ≤ 1 := by
  by_cases h : okT al nr c t
  · rw [iT_1 h]; exact ⟨by decide, by decide⟩
  · rw [iT_0 h]; exact ⟨by decide, by decide⟩
theorem wy_nn {al nr : Nat → Nat → Prop} {n : Nat} : ∀ c S, S < 2 ^ n → 0 ≤ wy al nr n c S := by
  intro c
  induction c with
  | zero =>
    intro S _
    show 0 ≤ (if S = 0 then (1 : Int) else 0)
    by_cases h : S = 0
    · rw [if_pos h]; decide
    · rw [if_neg h]; decide
  | succ c ih =>
    intro S hS
    rw [wy_s]
    exact pp_nn hS (fun a b _ hb _ => Int.mul_nonneg (iT_nn al nr c a).1 (ih b hb))
theorem wy_pos {al nr : Nat → Nat → Prop} {n : Nat} : ∀ c S, S < 2 ^ n → (0 < wy al nr n c S ↔ DC al nr c S) := by
  intro c
  induction c with
  | zero =>
    intro S _
    rw [DC_0]
    show 0 < (if S = 0 then (1 : Int) else 0) ↔ _
    by_cases h : S = 0
    · rw [if_pos h]; exact ⟨fun _ => h, fun _ => by decide⟩
    · rw [if_neg h]; exact ⟨fun w => absurd w (by decide), fun w => absurd w h⟩
  | succ c ih =>
    intro S hS
    rw [wy_s]
    have hnn : ∀ a b, a < 2 ^ n → b < 2 ^ n → cut S a b → 0 ≤ iT al nr c a * wy al nr n c b := fun a b _ hb _ => Int.mul_nonneg (iT_nn al nr c a).1 (wy_nn c b hb)
    constructor
    · intro h
      obtain ⟨a, b, ha, hb, hc, hp⟩ := pp_ex hS h
      have ho : okT al nr c a := by
        by_cases q : okT al nr c a
        · exact q
        · rw [iT_0 q, Int.zero_mul] at hp; omega
      rw [iT_1 ho, Int.one_mul] at hp
      refine DC_put (cut_sb hc) ho ?_
      rw [← cut_xor hc]
      exact (ih b hb).mp hp
    · intro h
      obtain ⟨t, h1, h2, h3⟩ := DC_take hS h
      have htl : t < 2 ^ n := Nat.lt_of_le_of_lt (sbN_le h1) hS
      have h4 := (ih _ (Nat.xor_lt_two_pow hS htl)).mpr h3
      have := pp_ge (a := t) hS hnn h1
      rw [iT_1 h2, Int.one_mul] at this
      omega
def pcN : Nat → Nat → Nat
  | 0, _ => 0
  | n + 1, S => pcN n S + if S.testBit n = true then 1 else 0
theorem pcN_low : ∀ (n S S' : Nat), (∀ i, i < n → S.testBit i = S'.testBit i) → pcN n S = pcN n S' := by
  intro n
  induction n with
  | zero => intro S S' _; rfl
  | succ n ih => intro S S' e; show pcN n S + _ = pcN n S' + _; rw [ih S S' (fun i hi => e i (by omega)), e n (by omega)]
theorem pcN_F {n S : Nat} (hs : S < 2 ^ n) : pcN (n + 1) S = pcN n S := by
  show pcN n S + _ = _
  rw [if_neg (by rw [bit_ge hs (Nat.le_refl _)]; decide), Nat.add_zero]
theorem pcN_T {n S : Nat} (hs : S < 2 ^ n) : pcN (n + 1) (S + 2 ^ n) = pcN n S + 1 := by
  show pcN n (S + 2 ^ n) + _ = _
  rw [if_pos (top_t hs), pcN_low n (S + 2 ^ n) S (fun i hi => by rw [top_bit hs, decide_eq_false (by omega), Bool.false_or])]
theorem pcN_le : ∀ n S, pcN n S ≤ n := by
  intro n
  induction n with
  | zero => intro S; exact Nat.le_refl _
  | succ n ih =>
    intro S
    have := ih S
    show pcN n S + _ ≤ _
    by_cases h : S.testBit n = true
    · rw [if_pos h]; omega
    · rw [if_neg h]; omega
theorem pp_pow {c : Int} : ∀ n S, S < 2 ^ n → pp n S (fun _ b => c ^ (pcN n b)) = (c + 1) ^ (pcN n S) := by
  intro n
  induction n with
  | zero => intro S _; show c ^ 0 = (c + 1) ^ 0; rw [Int.pow_zero, Int.pow_zero]
  | succ n ih =>
    intro S hS
    by_cases q : S.testBit n = true
    · obtain ⟨S', hS', rfl⟩ := split_top hS q
      rw [pp_T hS', pcN_T hS']
      rw [pp_congr n S' (fun _ b => c ^ (pcN (n + 1) b)) (fun _ b => c ^ (pcN n b)) hS' (fun a b _ hb _ => by rw [pcN_F hb])]
      rw [pp_congr n S' (fun _ b => c ^ (pcN (n + 1) (b + 2 ^ n))) (fun _ b => c * c ^ (pcN n b)) hS' (fun a b _ hb _ => by rw [pcN_T hb, Int.pow_succ, Int.mul_comm])]
      rw [pp_mul, ih S' hS', Int.pow_succ, Int.mul_add, Int.mul_one, Int.add_comm, Int.mul_comm c]
    · have hS' := low_of hS q
      rw [pp_F hS', pcN_F hS', ← ih S hS']
      exact pp_congr n S _ _ hS' (fun a b _ hb _ => by rw [pcN_F hb])
theorem wy_le {al nr : Nat → Nat → Prop} {n : Nat} : ∀ (c S : Nat), S < 2 ^ n → wy al nr n c S ≤ (c : Int) ^ (pcN n S) := by
  intro c
  induction c with
  | zero =>
    intro S hS
    show (if S = 0 then (1 : Int) else 0) ≤ _
    by_cases h : S = 0
    · subst h
      have : pcN n 0 = 0 := by
        have : ∀ m, pcN m 0 = 0 := by
          intro m
          induction m with
          | zero => rfl
          | succ m ih => show pcN m 0 + _ = _; rw [ih, if_neg (by rw [Nat.zero_testBit]; decide)]
        exact this n
      rw [if_pos rfl, this]; decide
    · rw [if_neg h]
      exact Int.pow_nonneg (by decide)
  | succ c ih =>
    intro S hS
    rw [wy_s]
    have h1 := pp_le n S (fun t x => iT al nr c t * wy al nr n c x) (fun _ b => (c : Int) ^ (pcN n b)) hS (fun a b _ hb _ => by
      have h2 := ih b hb
      have h3 := wy_nn (al := al) (nr := nr) c b hb
      by_cases q : okT al nr c a
      · rw [iT_1 q, Int.one_mul]; exact h2
      · rw [iT_0 q, Int.zero_mul]; omega)
    rw [pp_pow n S hS] at h1
    exact h1
theorem wy_big {al nr : Nat → Nat → Prop} {n S : Nat} (hn : n ≤ 12) (hS : S < 2 ^ n) : wy al nr n 12 S < 2 ^ 63 := by
  have h1 := wy_le (al := al) (nr := nr) 12 S hS
  have h2 := pcN_le n S
  have h3 : ((12 : Nat) : Int) ^ (pcN n S) ≤ ((12 : Nat) : Int) ^ 12 := by
    rw [← Int.natCast_pow, ← Int.natCast_pow]
    exact Int.ofNat_le.mpr (Nat.pow_le_pow_right (by omega) (by omega))
  have h4 : ((12 : Nat) : Int) ^ 12 < 2 ^ 63 := by decide
  omega
theorem wy_skip {al nr : Nat → Nat → Prop} {n c S : Nat} (hS : S < 2 ^ n) (h : ∀ i, i < n → ¬ al i c) : wy al nr n (c + 1) S = wy al nr n c S := by
  have h0 : okT al nr c 0 := ⟨(fun i hi => by rw [Nat.zero_testBit] at hi; cases hi), (fun i j hi => by rw [Nat.zero_testBit] at hi; cases hi)⟩
  have hz : ∀ t, 1 ≤ t → t < 2 ^ n → subg S (fun t x => iT al nr c t * wy al nr n c x) t = 0 := by
    intro t h1 ht
    unfold subg
    by_cases q : t &&& S = t
    · rw [if_pos q]
      show iT al nr c t * wy al nr n c (S ^^^ t) = 0
      rw [iT_0, Int.zero_mul]
      intro w
      have : t = 0 := by
        apply Nat.eq_of_testBit_eq
        intro i
        rw [Nat.zero_testBit]
        cases hb : t.testBit i with
        | false => rfl
        | true => exact absurd (w.1 i hb) (h i (bit_lt ht hb))
      omega
    · rw [if_neg q]
  rw [wy_s, pp_range n S _ hS, sumR_gap (a := 1) (2 ^ n) (Nat.one_le_two_pow) hz]
  show 0 + subg S _ 0 = _
  unfold subg
  rw [if_pos (Nat.zero_and S)]
  show 0 + iT al nr c 0 * wy al nr n c (S ^^^ 0) = _
  rw [iT_1 h0, Int.one_mul, Nat.xor_zero]
  omega
abbrev LI (z : Int) : Int64 := Int64.ofInt z
theorem LI_add (a b : Int) : LI a + LI b = LI (a + b) := (Int64.ofInt_add a b).symm
theorem bit_val (x : Int32) {c : Nat} (hc : c < 32) : ((x >>> (nI c &&& 31)) &&& 1) = if bt x c = true then 1 else 0 := by
  by_cases h : bt x c = true
  · rw [if_pos h]; exact (bit_one x hc).mpr h
  · rw [if_neg h]; exact (b_test x hc).mpr (bt_f h)
abbrev al0 (lists : Nat → Int32) : Nat → Nat → Prop := fun i c => bt (lists i) c = true
abbrev nr0 (near : Nat → Int32) : Nat → Nat → Prop := fun i j => bt (near i) j = true
/-- what the reference keeps -/
def waysOK (near lists : Nat → Int32) (n : Nat) (ways : Nat → Int64) : Prop := ∀ s, s < 2 ^ n → ways s = LI (wy (al0 lists) (nr0 near) n 12 s)
theorem Mo_byLists_ok {F n : Nat} {tt a y zz e1 e2 : Int32} {near lists ia : Nat → Int32} {ways next : Nat → Int64} (hn : n ≤ 12) (hw : ¬ e2 = 0 → waysOK near lists n ways) (hF : 5000 < F) : OK (m_Mo_byLists F tt (nI n) a y zz e1 e2 near lists ia ways next) (fun r => ¬ r.1 = 0 ∧ waysOK near lists n r.2.2.1) := by
  have hp := pow_le12 hn
  have hp1 : 1 ≤ 2 ^ n := Nat.one_le_two_pow
  unfold m_Mo_byLists
  by_cases h0 : e2 = 0
  · rw [if_pos h0]
    refine OK_gM (Mo_sets_ok hn hF) ?_
    intro ia2 hia
    try dsimp only
    rw [gB_eq, nI_mask hn]
    generalize hPP : (fun r : Int32 × (Nat → Int32) × (Nat → Int64) × (Nat → Int64) => ¬ r.1 = 0 ∧ waysOK near lists n r.2.2.1) = PP
    refine OK_for (2 ^ n) (fun s z => ∃ ways : Nat → Int64, z = (nI s, ways) ∧ ∀ s', s' < s → ways s' = LI (wy (al0 lists) (nr0 near) n 0 s')) ?_ ?_ F 0 _ (Nat.zero_le _) ⟨ways, rfl, fun s hs => by omega⟩ (by omega)
    · rintro k1 z ⟨ways, rfl, hwa⟩
      try dsimp only
      rw [if_pos (nI_lt (by omega) (by omega))]
      refine OK_for 12 (fun c z => ∃ ways next : Nat → Int64, z = (nI c, ways, next) ∧ ∀ s', s' < 2 ^ n → ways s' = LI (wy (al0 lists) (nr0 near) n c s')) ?_ ?_ F 0 _ (by omega) ⟨ways, next, rfl, hwa⟩ (by omega)
      · rintro k2 z ⟨ways, next, rfl, hwa⟩
        try dsimp only
        rw [if_pos (show (12 : Int32) ≤ nI 12 from nI_le (Nat.le_refl _) (by omega)), ← hPP]
        exact OK_some ⟨show ¬ (1 : Int32) = 0 by decide, hwa⟩
      · rintro k2 c z hc ⟨ways, next, rfl, hwa⟩ hk2
        try dsimp only
        rw [if_neg (show ¬ (12 : Int32) ≤ nI c from nI_ge (a := c) (b := 12) hc (by omega))]
        refine OK_for n (fun x z => ∃ may : Nat, z = (nI may, nI x) ∧ may < 2 ^ n ∧ ∀ i, (may.testBit i = true ↔ i < x ∧ bt (lists i) c = true)) ?_ ?_ F 0 _ (Nat.zero_le _) ⟨0, rfl, by omega, fun i => by rw [Nat.zero_testBit]; exact ⟨fun w => (by cases w), fun w => by omega⟩⟩ (by omega)
        · rintro k3 z ⟨may, rfl, hml, hmay⟩
          try dsimp only
          rw [if_pos (nI_le (Nat.le_refl _) (by omega))]
          have copy : ∀ next : Nat → Int64, (∀ s', s' < 2 ^ n → ¬ may = 0 → next s' = LI (wy (al0 lists) (nr0 near) n (c + 1) s')) → OK (gL (fun (k_204 : (Int32 × (Nat → Int64)) → Option (Int32 × (Nat → Int32) × (Nat → Int64) × (Nat → Int64))) (z_204 : Int32 × (Nat → Int64)) => match z_204 with
            | (x4_17, w0_ways_18) =>
            if nI (2 ^ n - 1) < x4_17 then (
              gB (nI c + 1) (fun x2_20 =>
              k2 (x2_20, w0_ways_18, next))
            ) else (
              if nI may = 0 then (
                gB (nI c + 1) (fun x2_22 =>
                k2 (x2_22, w0_ways_18, next))
              ) else (
                gC (inb x4_17 4096) (
                gC (inb x4_17 4096) (
                gB (x4_17 + 1) (fun x4_25 =>
                k_204 (x4_25, vp_updL w0_ways_18 x4_17.toNatClampNeg (next x4_17.toNatClampNeg)))))
              )
            )
            ) F (0, ways)) PP := by
            intro next hnx
            by_cases hm0 : may = 0
            · obtain ⟨F', rfl⟩ : ∃ F', F = F' + 1 := ⟨F - 1, by omega⟩
              rw [gL_s]
              try dsimp only
              rw [if_neg (show ¬ nI (2 ^ n - 1) < 0 from nI_nlt (a := 2 ^ n - 1) (b := 0) (Nat.zero_le _) (by omega)), if_pos (show nI may = 0 by rw [hm0]; rfl), gB_eq, nI_1]
              refine hk2 _ ⟨ways, next, rfl, fun s' hs' => ?_⟩
              rw [hwa s' hs', wy_skip hs' (fun i hi w => ?_)]
              have := (hmay i).mpr ⟨hi, w⟩
              rw [hm0, Nat.zero_testBit] at this; cases this
            · refine OK_for (2 ^ n) (fun s z => ∃ ways : Nat → Int64, z = (nI s, ways) ∧ ∀ s', s' < s → ways s' = LI (wy (al0 lists) (nr0 near) n (c + 1) s')) ?_ ?_ F 0 _ (Nat.zero_le _) ⟨ways, rfl, fun s hs => by omega⟩ (by omega)
              · rintro k4 z ⟨ways, rfl, hwa2⟩
                try dsimp only
                rw [if_pos (nI_lt (by omega) (by omega)), gB_eq, nI_1]
                exact hk2 _ ⟨ways, next, rfl, hwa2⟩
              · rintro k4 s z hs ⟨ways, rfl, hwa2⟩ hk4
                try dsimp only
                rw [if_neg (nI_nlt (by omega) (by omega)), if_neg (nI_nz hm0 (by omega)), gC_t (inb_nI (by omega) (by omega)), gC_t (inb_nI (by omega) (by omega)), gB_eq, nI_1, nI_clamp (by omega)]
                refine hk4 _ ⟨_, rfl, fun s' hs' => ?_⟩
                by_cases e : s' = s
                · subst e; rw [pk_uLs]; exact hnx s' hs hm0
                · rw [pk_uLn e]; exact hwa2 s' (by omega)
          by_cases hm0 : may = 0
          · obtain ⟨F', rfl⟩ : ∃ F', F = F' + 1 := ⟨F - 1, by omega⟩
            rw [gL_s]
            try dsimp only
            refine OK_gB ?_
            try dsimp only
            rw [if_neg (show ¬ nI (2 ^ n - 1) < 0 from nI_nlt (a := 2 ^ n - 1) (b := 0) (Nat.zero_le _) (by omega)), if_pos (show nI may = 0 by rw [hm0]; rfl)]
            exact copy next (fun s' _ w => absurd hm0 w)
          · refine OK_for (2 ^ n) (fun s z => ∃ next : Nat → Int64, z = (nI s, next) ∧ ∀ s', s' < s → next s' = LI (wy (al0 lists) (nr0 near) n (c + 1) s')) ?_ ?_ F 0 _ (Nat.zero_le _) ⟨next, rfl, fun s hs => by omega⟩ (by omega)
            · rintro k4 z ⟨next, rfl, hnx⟩
              try dsimp only
              refine OK_gB ?_
              try dsimp only
              rw [if_pos (nI_lt (by omega) (by omega))]
              exact copy next (fun s' hs' _ => hnx s' hs')
            · rintro k4 s z hs ⟨next, rfl, hnx⟩ hk4
              try dsimp only
              refine OK_gB ?_
              try dsimp only
              rw [if_neg (nI_nlt (by omega) (by omega)), if_neg (nI_nz hm0 (by omega)), nx_and, gB_eq]
              have hsm : s &&& may < 2 ^ n := Nat.lt_of_le_of_lt Nat.and_le_left hs
              have hok : ∀ t, t < 2 ^ n → sbN t s → (okT (al0 lists) (nr0 near) c t ↔ sbN t (s &&& may) ∧ apt near t) := by
                intro t ht hts
                constructor
                · intro w
                  refine ⟨fun i hi => ?_, w.2⟩
                  rw [Nat.testBit_and, Bool.and_eq_true]
                  exact ⟨hts i hi, (hmay i).mpr ⟨bit_lt ht hi, w.1 i hi⟩⟩
                · intro w
                  refine ⟨fun i hi => ?_, w.2⟩
                  have := w.1 i hi
                  rw [Nat.testBit_and, Bool.and_eq_true] at this
                  exact ((hmay i).mp this.2).2
              generalize hG : subg s (fun t x => iT (al0 lists) (nr0 near) c t * wy (al0 lists) (nr0 near) n c x) = G
              have htot : wy (al0 lists) (nr0 near) n (c + 1) s = sumR G ((s &&& may) + 1) := by
                rw [wy_s, pp_range n s _ hs, hG]
                refine sumR_gap (2 ^ n) (by omega) (fun t h1 h2 => ?_)
                rw [← hG]
                unfold subg
                by_cases q : t &&& s = t
                · rw [if_pos q]
                  show iT (al0 lists) (nr0 near) c t * wy (al0 lists) (nr0 near) n c (s ^^^ t) = 0
                  rw [iT_0, Int.zero_mul]
                  intro w
                  have := sbN_le ((hok t h2 (and_eq_iff.mp q)).mp w).1
                  omega
                · rw [if_neg q]
              refine OK_gLm (fun m z => (∃ (t : Nat) (A : Int), z = (LI A, nI t, 1) ∧ m = t + 1 ∧ sbN t (s &&& may) ∧ A + sumR G (t + 1) = sumR G ((s &&& may) + 1)) ∨ (∃ (x : Int32), z = (LI (sumR G ((s &&& may) + 1)), x, 0) ∧ m = 0)) ?_ F ((s &&& may) + 1) _ (Or.inl ⟨s &&& may, 0, rfl, rfl, sbN_refl _, by omega⟩) (by omega)
              rintro k5 m z (⟨t, A, rfl, rfl, htm, hA⟩ | ⟨x, rfl, rfl⟩) hk5
              · have htl : t < 2 ^ n := Nat.lt_of_le_of_lt (sbN_le htm) hsm
                have hts : sbN t s := sbN_trans htm and_sbN'
                have hGt : G t = @ite Int (apt near t) (Classical.propDecidable _) (wy (al0 lists) (nr0 near) n c (s ^^^ t)) 0 := by
                  rw [← hG]
                  unfold subg
                  rw [if_pos (and_eq_iff.mpr hts)]
                  show iT (al0 lists) (nr0 near) c t * wy (al0 lists) (nr0 near) n c (s ^^^ t) = _
                  by_cases q : apt near t
                  · rw [if_pos q, iT_1 ((hok t htl hts).mpr ⟨htm, q⟩), Int.one_mul]
                  · rw [if_neg q, iT_0 (fun w => q ((hok t htl hts).mp w).2), Int.zero_mul]
                try dsimp only
                rw [if_neg (show ¬ (1 : Int32) = 0 by decide), gC_t (inb_nI (by omega) (by omega))]
                refine OK_gBQ (fun J => OK (J (LI (G t))) PP) ?_ ?_
                · try dsimp only
                  rw [gB_eq, LI_add]
                  refine OK_gB ?_
                  try dsimp only
                  by_cases ht0 : t = 0
                  · subst ht0
                    rw [if_pos (show nI 0 ≤ 0 by decide), gB_eq]
                    have e0 : A + G 0 = sumR G ((s &&& may) + 1) := by
                      rw [← hA]
                      show A + G 0 = A + (0 + G 0)
                      rw [Int.zero_add]
                    exact hk5 0 _ (by omega) (Or.inr ⟨_, by rw [e0], rfl⟩)
                  · rw [if_neg (show ¬ nI t ≤ 0 from nI_ge (a := 0) (b := t) (by omega) (by omega)), gB_eq, show nI t - 1 = nI (t - 1) from pk_sub (b := 1) (by omega), nx_and]
                    have hlt : (t - 1) &&& (s &&& may) < t := Nat.lt_of_le_of_lt Nat.and_le_left (by omega)
                    refine hk5 _ _ (Nat.succ_lt_succ hlt) (Or.inl ⟨_, _, rfl, rfl, and_sbN, ?_⟩)
                    rw [← hA, sumR_s G t]
                    have : sumR G t = sumR G (((t - 1) &&& (s &&& may)) + 1) := by
                      refine sumR_gap t hlt (fun x h1 h2 => ?_)
                      rw [← hG]
                      unfold subg
                      by_cases q : x &&& s = x
                      · rw [if_pos q]
                        show iT (al0 lists) (nr0 near) c x * wy (al0 lists) (nr0 near) n c (s ^^^ x) = 0
                        rw [iT_0, Int.zero_mul]
                        intro w
                        have w1 := ((hok x (by omega) (and_eq_iff.mp q)).mp w).1
                        have := prevSub t (s &&& may) x (sbN_and htm) (sbN_and w1) h2
                        omega
                      · rw [if_neg q]
                    rw [this]; omega
                · intro J hJ
                  try dsimp only
                  rw [nI_clamp (by omega)]
                  rcases hia t htl with ⟨i1, i2⟩ | ⟨i1, i2⟩
                  · rw [if_neg (by rw [i1]; decide), nx_xor, gC_t (inb_nI (by have := Nat.xor_lt_two_pow hs htl; omega) (by omega)), nI_clamp (by have := Nat.xor_lt_two_pow hs htl; omega), hwa _ (Nat.xor_lt_two_pow hs htl)]
                    rw [hGt, if_pos i2] at hJ
                    exact hJ
                  · rw [if_pos i1]
                    rw [hGt, if_neg i2] at hJ
                    exact hJ
              · try dsimp only
                rw [if_pos rfl, gC_t (inb_nI (by omega) (by omega)), gB_eq, nI_1, nI_clamp (by omega)]
                refine hk4 _ ⟨_, rfl, fun s' hs' => ?_⟩
                by_cases e : s' = s
                · subst e; rw [pk_uLs, htot]
                · rw [pk_uLn e]; exact hnx s' (by omega)
        · rintro k3 x z hx ⟨may, rfl, hml, hmay⟩ hk3
          try dsimp only
          rw [if_neg (nI_ge hx (by omega)), gC_t (inb_nI (by omega) (by omega)), nI_clamp (by omega), bit_val _ (by omega), gB_eq, gB_eq, nI_1]
          have pw : 2 ^ x < 2 ^ n := Nat.pow_lt_pow_right (by omega) (by omega)
          by_cases hb : bt (lists x) c = true
          · rw [if_pos hb, one_shl (by omega), nx_or]
            refine hk3 _ ⟨_, rfl, Nat.or_lt_two_pow hml pw, fun i => ?_⟩
            rw [Nat.testBit_or, Bool.or_eq_true, hmay i, Nat.testBit_two_pow, decide_eq_true_iff]
            constructor
            · rintro (w | rfl)
              · exact ⟨by omega, w.2⟩
              · exact ⟨by omega, hb⟩
            · intro w
              by_cases e : i < x
              · exact Or.inl ⟨e, w.2⟩
              · exact Or.inr (by omega)
          · rw [if_neg hb]
            have e0 : nI may ||| ((0 : Int32) <<< (nI x &&& 31)) = nI may := by
              have := pk_shlN (n := 0) (nI x &&& 31) x (s_l x (by omega)) (by rw [Nat.zero_mul]; decide)
              rw [Nat.zero_mul] at this
              rw [show ((0 : Int32) <<< (nI x &&& 31)) = nI 0 from this, nx_or, Nat.or_zero]
            rw [e0]
            refine hk3 _ ⟨may, rfl, hml, fun i => ?_⟩
            rw [hmay i]
            constructor
            · exact fun w => ⟨by omega, w.2⟩
            · intro w
              refine ⟨?_, w.2⟩
              by_cases e : i = x
              · subst e; exact absurd w.2 hb
              · omega
    · rintro k1 s z hs ⟨ways, rfl, hwa⟩ hk1
      try dsimp only
      rw [if_neg (nI_nlt (by omega) (by omega))]
      refine OK_gBQ (fun J => OK (J (LI (wy (al0 lists) (nr0 near) n 0 s))) PP) ?_ ?_
      · try dsimp only
        rw [gC_t (inb_nI (by omega) (by omega)), gB_eq, nI_1, nI_clamp (by omega)]
        refine hk1 _ ⟨_, rfl, fun s' hs' => ?_⟩
        by_cases e : s' = s
        · subst e; rw [pk_uLs]
        · rw [pk_uLn e]; exact hwa s' (by omega)
      · intro J hJ
        try dsimp only
        have e : wy (al0 lists) (nr0 near) n 0 s = if s = 0 then 1 else 0 := rfl
        by_cases h0 : s = 0
        · rw [if_pos (show nI s = 0 by rw [h0]; rfl)]
          rw [e, if_pos h0] at hJ
          exact hJ
        · rw [if_neg (nI_nz h0 (by omega))]
          rw [e, if_neg h0] at hJ
          exact hJ
  · rw [if_neg h0]
    exact OK_some ⟨h0, hw h0⟩
