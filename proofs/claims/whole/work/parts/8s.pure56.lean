/-! PURE, 56: the class's polynomial: pairs, the node with fewest near, factors -/
def nrP (rows : Nat → Int32) : Nat → Nat → Prop := fun i j => i < 12 ∧ j < 12 ∧ bt (rows i) j = true
theorem nb_nI {rows : Nat → Int32} {V v : Nat} (hV : V < 2 ^ 12) (hv : v < 12) : (rows v) &&& nI V = nI (nbV (nrP rows) V v) := by
  apply b_ext
  intro i hi
  rw [b_and, bt_nI V hi, bt_nI _ hi]
  have := nbV_bit (nr := nrP rows) (v := v) (i := i) hV
  cases h1 : bt (rows v) i <;> cases h2 : V.testBit i <;> cases h3 : (nbV (nrP rows) V v).testBit i <;> rw [h2, h3] at this
  · rfl
  · exact absurd (this.mp rfl).1 (by decide)
  · rfl
  · have := (this.mp rfl).2.2.2; rw [h1] at this; cases this
  · rfl
  · exact absurd (this.mp rfl).1 (by decide)
  · exact absurd (this.mpr ⟨rfl, hv, bit_lt hV h2, h1⟩) (by decide)
  · rfl
theorem far_nI {rows : Nat → Int32} {N v : Nat} (hN : N < 2 ^ 12) (hv : v < 12) : (nI N &&& ((rows v) ^^^ (-1))) &&& (((1 : Int32) <<< (nI v &&& 31)) ^^^ (-1)) = nI (farV (nrP rows) N v) := by
  apply b_ext
  intro i hi
  rw [b_rm _ (by omega) hi, b_and, b_not _ hi, bt_nI N hi, bt_nI _ hi]
  have := farV_bit (nr := nrP rows) (v := v) (i := i) hN
  cases h1 : bt (rows v) i <;> cases h2 : N.testBit i <;> cases h3 : (farV (nrP rows) N v).testBit i <;> rw [h2, h3] at this
  · rfl
  · exact absurd (this.mp rfl).1 (by decide)
  · by_cases e : i = v
    · rw [decide_eq_true e]; rfl
    · exact absurd (this.mpr ⟨rfl, e, fun w => by have := w.2.2; rw [h1] at this; cases this⟩) (by decide)
  · have e := (this.mp rfl).2.1
    rw [decide_eq_false e]; rfl
  · rfl
  · exact absurd (this.mp rfl).1 (by decide)
  · rfl
  · exact absurd ⟨hv, bit_lt hN h2, h1⟩ (this.mp rfl).2.2
theorem Pol_far_ok {F t N : Nat} {vs : Int32} {M : Nat → Nat → Int32} (ht : t < 68) (hN : N < 2 ^ 12) (hF : 100 < F) : OK (m_Pol_farPair F vs M (nI t) (nI N)) (fun r => (r = 0 ∧ simpl (nrP (M t)) N) ∨ (∃ a b, r = nI (2 ^ a ||| 2 ^ b) ∧ PKa (nrP (M t)) N a ∧ N.testBit b = true ∧ ¬ b = a ∧ ¬ nrP (M t) a b)) := by
  unfold m_Pol_farPair
  rw [gC_t (inb_nI ht (by omega)), nI_clamp (by omega)]
  refine OK_for 12 (fun v z => z = nI v ∧ ∀ x, N.testBit x = true → x < v → ∀ y, N.testBit y = true → ¬ y = x → nrP (M t) x y) ?_ ?_ F 0 _ (by omega) ⟨rfl, fun x _ hx => by omega⟩ (by omega)
  · rintro k1 z ⟨rfl, h⟩
    try dsimp only
    rw [if_pos (show (12 : Int32) ≤ nI 12 from nI_le (Nat.le_refl _) (by omega))]
    exact OK_some (Or.inl ⟨rfl, fun i j hi hj hij => h i hi (bit_lt hN hi) j hj (fun e => hij e.symm)⟩)
  · rintro k1 v z hv ⟨rfl, h⟩ hk1
    try dsimp only
    rw [if_neg (show ¬ (12 : Int32) ≤ nI v from nI_ge (a := v) (b := 12) hv (by omega))]
    by_cases hb : N.testBit v = true
    · have hl := farV_lt (nrP (M t)) N v
      rw [if_neg (fun w => (bit_0 (by omega)).mp w hb), gC_t (inb_nI hv (by omega)), nI_clamp (by omega), far_nI hN hv, gB_eq]
      by_cases h0 : farV (nrP (M t)) N v = 0
      · rw [if_pos (show nI (farV (nrP (M t)) N v) = 0 by rw [h0]; rfl), gB_eq, nI_1]
        refine hk1 _ ⟨rfl, fun x hx hxv y hy hyx => ?_⟩
        by_cases e : x = v
        · subst e
          refine Classical.byContradiction (fun q => ?_)
          have := (farV_bit hN).mpr ⟨hy, hyx, q⟩
          rw [h0, Nat.zero_testBit] at this; cases this
        · exact h x hx (by omega) y hy hyx
      · rw [if_neg (nI_nz h0 (by omega))]
        obtain ⟨b, hbl⟩ := lowS_ex h0
        have hbf := (farV_bit hN).mp hbl.1
        rw [low_nI (n := 12) (by omega) hl hbl, one_shl (by omega), nx_or]
        exact OK_some (Or.inr ⟨v, b, rfl, ⟨hb, ⟨b, hbf⟩, fun x hx hxv y hy hyx => h x hx hxv y hy hyx⟩, hbf⟩)
    · rw [if_pos ((bit_0 (by omega)).mpr hb), gB_eq, nI_1]
      refine hk1 _ ⟨rfl, fun x hx hxv y hy hyx => ?_⟩
      by_cases e : x = v
      · subst e; exact absurd hx hb
      · exact h x hx (by omega) y hy hyx
theorem dg_le {rows : Nat → Int32} {V v : Nat} (hok : okN (nrP rows)) (hV : V < 2 ^ 12) (hv : V.testBit v = true) : dgV (nrP rows) V v ≤ 11 := by
  have h1 := pcN_parts hok.irr hV hv
  have h2 := pcN_le 12 V
  omega
theorem bitc_dg {rows : Nat → Int32} {V v : Nat} (hV : V < 2 ^ 12) (hv : v < 12) : bitc ((rows v) &&& nI V) = nI (dgV (nrP rows) V v) := by
  have hl := nbV_lt (nrP rows) V v
  rw [nb_nI hV hv, bitc_12 (by omega)]
  unfold dgV
  congr 1
  have e : (nI (nbV (nrP rows) V v)).toBitVec.toNat = nbV (nrP rows) V v := pk_tn (by omega)
  rw [← e, popN_bc _ 12 (by omega), e, bc_pc 12 (by omega)]
theorem Pol_fewest_ok {F t V : Nat} {vs : Int32} {nd : Nat → Int32} {M : Nat → Nat → Int32} (ht : t < 68) (hV : V < 2 ^ 12) (hnd : nd t = nI V) (h0 : V ≠ 0) (hok : okN (nrP (M t))) (hF : 100 < F) : OK (m_Pol_fewestNear F vs nd M (nI t)) (fun r => ∃ v, r = nI v ∧ PKv (nrP (M t)) V v) := by
  unfold m_Pol_fewestNear
  refine OK_for 12 (fun v z => (∃ x : Int32, z = (x, 12, nI v) ∧ ∀ u, V.testBit u = true → ¬ u < v) ∨ (∃ b, z = (nI b, nI (dgV (nrP (M t)) V b), nI v) ∧ V.testBit b = true ∧ b < v ∧ (∀ u, V.testBit u = true → u < v → dgV (nrP (M t)) V b ≤ dgV (nrP (M t)) V u) ∧ ∀ u, V.testBit u = true → u < b → dgV (nrP (M t)) V b < dgV (nrP (M t)) V u)) ?_ ?_ F 0 _ (by omega) (Or.inl ⟨0, rfl, fun u _ hu => by omega⟩) (by omega)
  · rintro k1 z (⟨x, rfl, h⟩ | ⟨b, rfl, h1, h2, h3, h4⟩)
    · obtain ⟨u, hu⟩ := nz_bit h0
      exact absurd (bit_lt hV hu) (h u hu)
    · try dsimp only
      rw [if_pos (show (12 : Int32) ≤ nI 12 from nI_le (Nat.le_refl _) (by omega))]
      exact OK_some ⟨b, rfl, h1, fun u hu => h3 u hu (bit_lt hV hu), h4⟩
  · intro k1 v z hv hz hk1
    obtain ⟨x, y, rfl, hxy⟩ : ∃ x y : Int32, z = (x, y, nI v) ∧ ((y = 12 ∧ ∀ u, V.testBit u = true → ¬ u < v) ∨ (∃ b, x = nI b ∧ y = nI (dgV (nrP (M t)) V b) ∧ V.testBit b = true ∧ b < v ∧ (∀ u, V.testBit u = true → u < v → dgV (nrP (M t)) V b ≤ dgV (nrP (M t)) V u) ∧ ∀ u, V.testBit u = true → u < b → dgV (nrP (M t)) V b < dgV (nrP (M t)) V u)) := by
      rcases hz with ⟨x, rfl, h⟩ | ⟨b, rfl, h⟩
      · exact ⟨x, 12, rfl, Or.inl ⟨rfl, h⟩⟩
      · exact ⟨_, _, rfl, Or.inr ⟨b, rfl, rfl, h⟩⟩
    try dsimp only
    rw [if_neg (show ¬ (12 : Int32) ≤ nI v from nI_ge (a := v) (b := 12) hv (by omega)), gC_t (inb_nI ht (by omega)), nI_clamp (by omega), hnd]
    by_cases hb : V.testBit v = true
    · have hdv := dg_le hok hV hb
      rw [if_neg (fun w => (bit_0 (by omega)).mp w hb), gC_t (inb_nI ht (by omega)), gC_t (inb_nI hv (by omega)), gC_t (inb_nI ht (by omega)), nI_clamp (by omega), gB_eq, bitc_dg hV hv]
      rcases hxy with ⟨rfl, h⟩ | ⟨b, rfl, rfl, h1, h2, h3, h4⟩
      · rw [if_neg (show ¬ (12 : Int32) ≤ nI (dgV (nrP (M t)) V v) from nI_ge (b := 12) (by omega) (by omega)), gB_eq, nI_1]
        refine hk1 _ (Or.inr ⟨v, rfl, hb, by omega, fun u hu hul => ?_, fun u hu hul => absurd hul (h u hu)⟩)
        have : u = v := by have := h u hu; omega
        rw [this]; exact Nat.le_refl _
      · have hdb := dg_le hok hV h1
        by_cases q : dgV (nrP (M t)) V b ≤ dgV (nrP (M t)) V v
        · rw [if_pos (nI_le q (by omega)), gB_eq, nI_1]
          refine hk1 _ (Or.inr ⟨b, rfl, h1, by omega, fun u hu hul => ?_, h4⟩)
          by_cases e : u = v
          · rw [e]; exact q
          · exact h3 u hu (by omega)
        · rw [if_neg (nI_ge (by omega) (by omega)), gB_eq, nI_1]
          refine hk1 _ (Or.inr ⟨v, rfl, hb, by omega, fun u hu hul => ?_, fun u hu hul => ?_⟩)
          · by_cases e : u = v
            · rw [e]; exact Nat.le_refl _
            · have := h3 u hu (by omega); omega
          · have := h3 u hu hul; omega
    · rw [if_pos ((bit_0 (by omega)).mpr hb), gB_eq, nI_1]
      rcases hxy with ⟨rfl, h⟩ | ⟨b, rfl, rfl, h1, h2, h3, h4⟩
      · refine hk1 _ (Or.inl ⟨x, rfl, fun u hu hul => ?_⟩)
        by_cases e : u = v
        · subst e; exact hb hu
        · exact h u hu (by omega)
      · refine hk1 _ (Or.inr ⟨b, rfl, h1, by omega, fun u hu hul => ?_, h4⟩)
        by_cases e : u = v
        · subst e; exact absurd hu hb
        · exact h3 u hu (by omega)
theorem Pol_fewest_0 {F t : Nat} {vs : Int32} {nd : Nat → Int32} {M : Nat → Nat → Int32} (ht : t < 68) (hnd : nd t = nI 0) (hF : 100 < F) : OK (m_Pol_fewestNear F vs nd M (nI t)) (fun r => r = 0) := by
  unfold m_Pol_fewestNear
  refine OK_for 12 (fun v z => z = (0, 12, nI v)) ?_ ?_ F 0 _ (by omega) rfl (by omega)
  · rintro k1 z rfl
    try dsimp only
    rw [if_pos (show (12 : Int32) ≤ nI 12 from nI_le (Nat.le_refl _) (by omega))]
    exact OK_some rfl
  · rintro k1 v z hv rfl hk1
    try dsimp only
    rw [if_neg (show ¬ (12 : Int32) ≤ nI v from nI_ge (a := v) (b := 12) hv (by omega)), gC_t (inb_nI ht (by omega)), nI_clamp (by omega), hnd, if_pos ((bit_0 (by omega)).mpr (by rw [Nat.zero_testBit]; decide)), gB_eq, nI_1]
    exact hk1 _ rfl
/-- factors, by how often each stands -/
def pkM (m : Nat → Nat) : Nat → Nat
  | 0 => 0
  | d + 1 => pkM m d + m d * 16 ^ d
def fkM (m : Nat → Nat) (k : Int) : Nat → Int
  | 0 => 1
  | d + 1 => fkM m k d * (k - d) ^ (m d)
theorem pkM_s (m : Nat → Nat) (d : Nat) : pkM m (d + 1) = pkM m d + m d * 16 ^ d := rfl
theorem fkM_s (m : Nat → Nat) (k : Int) (d : Nat) : fkM m k (d + 1) = fkM m k d * (k - d) ^ (m d) := rfl
theorem pkM_low {m m' : Nat → Nat} : ∀ D, (∀ d, d < D → m d = m' d) → pkM m D = pkM m' D := by
  intro D
  induction D with
  | zero => intro _; rfl
  | succ D ih => intro h; rw [pkM_s, pkM_s, ih (fun d hd => h d (by omega)), h D (by omega)]
theorem fkM_low {m m' : Nat → Nat} {k : Int} : ∀ D, (∀ d, d < D → m d = m' d) → fkM m k D = fkM m' k D := by
  intro D
  induction D with
  | zero => intro _; rfl
  | succ D ih => intro h; rw [fkM_s, fkM_s, ih (fun d hd => h d (by omega)), h D (by omega)]
theorem pkM_inc {m : Nat → Nat} {x : Nat} : ∀ D, x < D → pkM (plus1 m x) D = pkM m D + 16 ^ x := by
  intro D
  induction D with
  | zero => intro h; omega
  | succ D ih =>
    intro h
    rw [pkM_s, pkM_s]
    by_cases e : x = D
    · subst e
      rw [pkM_low (m' := m) x (fun d hd => by unfold plus1; rw [if_neg (by omega), Nat.add_zero])]
      unfold plus1
      rw [if_pos rfl, Nat.add_mul, Nat.one_mul]; omega
    · rw [ih (by omega)]
      unfold plus1
      rw [if_neg e, Nat.add_zero]; omega
theorem fkM_inc {m : Nat → Nat} {x : Nat} {k : Int} : ∀ D, x < D → fkM (plus1 m x) k D = fkM m k D * (k - x) := by
  intro D
  induction D with
  | zero => intro h; omega
  | succ D ih =>
    intro h
    rw [fkM_s, fkM_s]
    by_cases e : x = D
    · subst e
      rw [fkM_low (m' := m) x (fun d hd => by unfold plus1; rw [if_neg (by omega), Nat.add_zero])]
      unfold plus1
      rw [if_pos rfl, Int.pow_succ, Int.mul_assoc]
    · rw [ih (by omega)]
      unfold plus1
      rw [if_neg e, Nat.add_zero, Int.mul_right_comm]
theorem shl_16' : ∀ d, d < 12 → (1 : Int64) <<< ((nI d * 4).toInt64 &&& 63) = LI ((16 ^ d : Nat) : Int) := by decide +kernel
theorem shl_16 {d : Nat} (hd : d < 12) : (1 : Int64) <<< ((nI d * 4).toInt64 &&& 63) = LI ((16 ^ d : Nat) : Int) := shl_16' d hd
/-- what is kept of a net on the pile -/
def entr (rows : Nat → Int32) (V : Nat) (m : Nat → Nat) (nd : Int32) (fa : Int64) : Prop := nd = nI V ∧ V < 2 ^ 12 ∧ fa = LI ((pkM m 12 : Nat) : Int) ∧ sumN 12 m + pcN 12 V ≤ 12
noncomputable def evP (rows : Nat → Int32) (V : Nat) (m : Nat → Nat) (k : Nat) : Int := fkM m (k : Int) 12 * wy aT (nrP rows) 12 k V
theorem take_one {rows : Nat → Int32} {V v : Nat} {m : Nat → Nat} (hok : okN (nrP rows)) (hV : V < 2 ^ 12) (hv : V.testBit v = true) (hs : simpl (nrP rows) (nbV (nrP rows) V v)) (k : Nat) : evP rows (rmB V v) (plus1 m (dgV (nrP rows) V v)) k = evP rows V m k := by
  unfold evP
  rw [fkM_inc 12 (by have := dg_le hok hV hv; omega)]
  have h1 := wy_simp (k := k) (Q := nbV (nrP rows) V v) hok.sym hok.irr hV hv (fun i => by
    rw [nbV_bit hV, rmB_bit]
    exact ⟨fun w => ⟨⟨w.1, fun e => hok.irr v (by have := w.2; rw [e] at this; exact this)⟩, w.2⟩, fun w => ⟨w.1.1, w.2⟩⟩) hs
  rw [h1, Int.mul_assoc]
  rfl
theorem Pol_take_ok {F t V : Nat} {vs : Int32} {nd : Nat → Int32} {fa : Nat → Int64} {M : Nat → Nat → Int32} {m : Nat → Nat} (ht : t < 68) (hok : okN (nrP (M t))) (he : entr (M t) V m (nd t) (fa t)) (hF : 100 < F) : OK (m_Pol_takeFactors F vs nd fa M (nI t)) (fun r => (∀ s, ¬ s = t → r.1 s = nd s ∧ r.2 s = fa s) ∧ ∃ (V' : Nat) (m' : Nat → Nat), entr (M t) V' m' (r.1 t) (r.2 t) ∧ sbN V' V ∧ coreV (nrP (M t)) V' ∧ ∀ k, evP (M t) V' m' k = evP (M t) V m k) := by
  have hp12 := pcN_le 12 V
  unfold m_Pol_takeFactors
  generalize hPP : (fun r : (Nat → Int32) × (Nat → Int64) => (∀ s, ¬ s = t → r.1 s = nd s ∧ r.2 s = fa s) ∧ ∃ (V' : Nat) (m' : Nat → Nat), entr (M t) V' m' (r.1 t) (r.2 t) ∧ sbN V' V ∧ coreV (nrP (M t)) V' ∧ ∀ k, evP (M t) V' m' k = evP (M t) V m k) = PP
  refine OK_for 12 (fun r z => ∃ (b : Int32) (nd2 : Nat → Int32) (fa2 : Nat → Int64) (V2 : Nat) (m2 : Nat → Nat), z = (b, nI r, nd2, fa2) ∧ (∀ s, ¬ s = t → nd2 s = nd s ∧ fa2 s = fa s) ∧ entr (M t) V2 m2 (nd2 t) (fa2 t) ∧ sbN V2 V ∧ (∀ k, evP (M t) V2 m2 k = evP (M t) V m k) ∧ (b = 0 → coreV (nrP (M t)) V2) ∧ (¬ b = 0 → pcN 12 V2 + r ≤ 12)) ?_ ?_ F 0 _ (by omega) ⟨1, nd, fa, V, m, rfl, fun _ _ => ⟨rfl, rfl⟩, he, sbN_refl _, fun _ => rfl, fun q => absurd q (by decide), fun _ => by omega⟩ (by omega)
  · rintro k1 z ⟨b, nd2, fa2, V2, m2, rfl, h1, h2, h3, h4, h5, h6⟩
    try dsimp only
    rw [if_pos (show (12 : Int32) ≤ nI 12 from nI_le (Nat.le_refl _) (by omega)), ← hPP]
    refine OK_some ⟨h1, V2, m2, h2, h3, ?_, h4⟩
    by_cases hb : b = 0
    · exact h5 hb
    · have h7 := h6 hb
      intro v hv
      have := pcN_rm 12 V2 v (bit_lt h2.2.1 hv) hv
      omega
  · rintro k1 r z hr ⟨b, nd2, fa2, V2, m2, rfl, h1, h2, h3, h4, h5, h6⟩ hk1
    try dsimp only
    rw [if_neg (show ¬ (12 : Int32) ≤ nI r from nI_ge (a := r) (b := 12) hr (by omega))]
    by_cases hb : b = 0
    · rw [if_pos hb, ← hPP]
      exact OK_some ⟨h1, V2, m2, h2, h3, h5 hb, h4⟩
    · rw [if_neg hb]
      have h6' := h6 hb
      refine OK_for 12 (fun v z => ∃ (b3 : Int32) (nd3 : Nat → Int32) (fa3 : Nat → Int64) (V3 : Nat) (m3 : Nat → Nat), z = (b3, nI v, nd3, fa3) ∧ (∀ s, ¬ s = t → nd3 s = nd s ∧ fa3 s = fa s) ∧ entr (M t) V3 m3 (nd3 t) (fa3 t) ∧ sbN V3 V ∧ (∀ k, evP (M t) V3 m3 k = evP (M t) V m k) ∧ (b3 = 0 → V3 = V2 ∧ ∀ u, V2.testBit u = true → u < v → ¬ simpl (nrP (M t)) (nbV (nrP (M t)) V2 u)) ∧ (¬ b3 = 0 → pcN 12 V3 < pcN 12 V2) ∧ pcN 12 V3 ≤ pcN 12 V2) ?_ ?_ F 0 _ (by omega) ⟨0, nd2, fa2, V2, m2, rfl, h1, h2, h3, h4, fun _ => ⟨rfl, fun u _ hu => by omega⟩, fun q => absurd rfl q, Nat.le_refl _⟩ (by omega)
      · rintro k2 z ⟨b3, nd3, fa3, V3, m3, rfl, g1, g2, g3, g4, g5, g6, g7⟩
        try dsimp only
        rw [if_pos (show (12 : Int32) ≤ nI 12 from nI_le (Nat.le_refl _) (by omega)), gB_eq, nI_1]
        refine hk1 _ ⟨b3, nd3, fa3, V3, m3, rfl, g1, g2, g3, g4, fun q => ?_, fun q => by have := g6 q; omega⟩
        obtain ⟨e, g8⟩ := g5 q
        rw [e]
        exact fun u hu => g8 u hu (bit_lt h2.2.1 hu)
      · rintro k2 v z hv ⟨b3, nd3, fa3, V3, m3, rfl, g1, g2, g3, g4, g5, g6, g7⟩ hk2
        try dsimp only
        obtain ⟨e1, e2, e3, e4⟩ := id g2
        have hskip : (b3 = 0 → V2.testBit v = true → ¬ simpl (nrP (M t)) (nbV (nrP (M t)) V2 v)) → OK (k2 (b3, nI (v + 1), nd3, fa3)) PP := fun q => hk2 _ ⟨b3, nd3, fa3, V3, m3, rfl, g1, g2, g3, g4, fun z => ⟨(g5 z).1, fun u hu hul => by
          by_cases e : u = v
          · subst e; exact q z hu
          · exact (g5 z).2 u hu (by omega)⟩, g6, g7⟩
        rw [if_neg (show ¬ (12 : Int32) ≤ nI v from nI_ge (a := v) (b := 12) hv (by omega)), gC_t (inb_nI ht (by omega)), nI_clamp (by omega)]
        simp only [e1]
        by_cases hbv : V3.testBit v = true
        · rw [if_neg (fun w => (bit_0 (by omega)).mp w hbv), gC_t (inb_nI ht (by omega)), gC_t (inb_nI hv (by omega)), gC_t (inb_nI ht (by omega)), nI_clamp (by omega), nb_nI e2 hv]
          refine OK_gM (Pol_far_ok ht (nbV_lt _ _ _) hF) ?_
          rintro q (⟨rfl, hq⟩ | ⟨a, b, rfl, hq1, hq2, hq3, hq4⟩)
          · have hdv := dg_le hok e2 hbv
            rw [if_pos rfl, gC_t (inb_nI ht (by omega)), gC_t (inb_nI hv (by omega)), gC_t (inb_nI ht (by omega)), gB_eq, gC_t (inb_nI ht (by omega)), gC_t (inb_nI ht (by omega)), gC_t (inb_nI ht (by omega)), gC_t (inb_nI ht (by omega)), gB_eq, nI_1, ← nb_nI e2 hv, bitc_dg e2 hv, shl_16 (by omega), rmB_nI e2 (by omega), e3, LI_add]
            have hpr := pcN_rm 12 V3 v hv hbv
            refine hk2 _ ⟨1, _, _, rmB V3 v, plus1 m3 (dgV (nrP (M t)) V3 v), rfl, fun s hs => ⟨by rw [upd_ne hs]; exact (g1 s hs).1, by rw [pk_uLn hs]; exact (g1 s hs).2⟩, ⟨upd_same _ _ _, rmB_lt e2, ?_, ?_⟩, sbN_trans (rmB_sb V3 v) g3, fun k => by rw [take_one hok e2 hbv hq k]; exact g4 k, fun q => absurd q (by decide), fun _ => by omega, by omega⟩
            · rw [pk_uLs, pkM_inc 12 (by omega)]
              congr 1
            · have e5 : sumN 12 (plus1 m3 (dgV (nrP (M t)) V3 v)) = sumN 12 m3 + 1 := by
                have := sumN_inc (u := m3) (x := dgV (nrP (M t)) V3 v) 12
                rw [if_pos (by omega)] at this
                exact this
              omega
          · have hne : ¬ nI (2 ^ a ||| 2 ^ b) = 0 := by
              have h1 := nbV_lt (nrP (M t)) V3 v
              have ha := bit_lt h1 hq1.1
              have hbb := bit_lt h1 hq2
              have hor : 2 ^ a ||| 2 ^ b < 2 ^ 12 := Nat.or_lt_two_pow (Nat.pow_lt_pow_right (by omega) ha) (Nat.pow_lt_pow_right (by omega) hbb)
              exact nI_nz (bit_nz (i := a) (by rw [Nat.testBit_or, Nat.testBit_two_pow, decide_eq_true rfl]; rfl)) (by omega)
            rw [if_neg hne, gB_eq, nI_1]
            refine hskip (fun z hz hs => ?_)
            rw [← (g5 z).1] at hs
            exact hq4 (hs a b hq1.1 hq2 (fun e => hq3 e.symm))
        · rw [if_pos ((bit_0 (by omega)).mpr hbv), gB_eq, nI_1]
          refine hskip (fun z hz => ?_)
          rw [← (g5 z).1] at hz
          exact absurd hz hbv
