/-! PURE, 40: arcs of the reference -/
def meetA (tail head : Nat → Int32) (i j : Nat) : Prop := tail i = tail j ∨ tail i = head j ∨ head i = tail j ∨ head i = head j
theorem meetA_symm {tail head : Nat → Int32} {i j : Nat} (h : meetA tail head i j) : meetA tail head j i := by
  rcases h with h | h | h | h
  · exact Or.inl h.symm
  · exact Or.inr (Or.inr (Or.inl h.symm))
  · exact Or.inr (Or.inl h.symm)
  · exact Or.inr (Or.inr (Or.inr h.symm))
def VA (tail head : Nat → Int32) (m k : Nat) (f : Nat → Nat) : Prop := (∀ i, i < m → f i < k) ∧ ∀ i u, i < m → u < i → meetA tail head u i → ¬ f u = f i
theorem VA_swp {tail head : Nat → Int32} {m k : Nat} (g : Nat → Nat) (c d : Nat) (hc : c < k) (hd : d < k) (h : VA tail head m k g) : VA tail head m k (fun i => swp c d (g i)) :=
  ⟨fun i hi => swp_lt hc hd (h.1 i hi), fun i u hi hu hm e => h.2 i u hi hu hm (swp_inj e)⟩
def usedN (f : Nat → Nat) : Nat → Nat
  | 0 => 0
  | i + 1 => if usedN f i ≤ f i then f i + 1 else usedN f i
theorem usedN_s (f : Nat → Nat) (i : Nat) : usedN f (i + 1) = if usedN f i ≤ f i then f i + 1 else usedN f i := rfl
theorem usedN_gt {f : Nat → Nat} : ∀ i u, u < i → f u < usedN f i := by
  intro i
  induction i with
  | zero => intro u hu; omega
  | succ i ih =>
    intro u hu
    rw [usedN_s]
    by_cases e : u = i
    · subst e
      by_cases h : usedN f u ≤ f u
      · rw [if_pos h]; omega
      · rw [if_neg h]; omega
    · have := ih u (by omega)
      by_cases h : usedN f i ≤ f i
      · rw [if_pos h]; omega
      · rw [if_neg h]; exact this
theorem usedN_eqB {f g : Nat → Nat} : ∀ i, eqB f g i → usedN f i = usedN g i := by
  intro i
  induction i with
  | zero => intro _; rfl
  | succ i ih => intro h; rw [usedN_s, usedN_s, ih (eqB_le h (by omega)), h i (by omega)]
theorem usedN_le {f : Nat → Nat} {k : Nat} : ∀ i, (∀ u, u < i → f u < k) → usedN f i ≤ k := by
  intro i
  induction i with
  | zero => intro _; exact Nat.zero_le _
  | succ i ih =>
    intro h
    rw [usedN_s]
    by_cases q : usedN f i ≤ f i
    · rw [if_pos q]; exact h i (by omega)
    · rw [if_neg q]; exact ih (fun u hu => h u (by omega))
def AdA (tail head : Nat → Int32) (k : Nat) (f : Nat → Nat) (i c : Nat) : Prop := c < k ∧ c ≤ usedN f i ∧ ∀ u, u < i → f u = c → ¬ meetA tail head u i
theorem AdA_eqB {tail head : Nat → Int32} {k : Nat} (f g : Nat → Nat) (i c : Nat) (h : eqB f g i) (ha : AdA tail head k f i c) : AdA tail head k g i c :=
  ⟨ha.1, by rw [← usedN_eqB i h]; exact ha.2.1, fun u hu e => ha.2.2 u hu (by rw [h u hu]; exact e)⟩
theorem Rt_VA {tail head : Nat → Int32} {m k : Nat} {f : Nat → Nat} (h : Rt m (AdA tail head k) f) : VA tail head m k f := ⟨fun i hi => (h i hi).1, fun i u hi hu hm e => (h i hi).2.2 u hu e hm⟩
theorem VA_Rt {tail head : Nat → Int32} {m k : Nat} {f : Nat → Nat} (h : Fst m (VA tail head m k) f) : Rt m (AdA tail head k) f := by
  have ht := Fst_turn h (fun g hg => hg.1) VA_swp
  refine fun i hi => ⟨h.1.1 i hi, ?_, fun u hu e hm => h.1.2 i u hi hu hm e⟩
  rcases Nat.lt_or_ge (usedN f i) (f i) with q | q
  · obtain ⟨u, hu, e⟩ := ht i hi _ q
    have := usedN_gt (f := f) i u hu
    omega
  · exact q
theorem Mo_meet_ok {F i j : Nat} {t n' a y z e1 e2 : Int32} {tail head : Nat → Int32} (hi : i < 40) (hj : j < 40) : OK (m_Mo_meet F t n' a y z e1 e2 tail head (nI i) (nI j)) (fun r => (r = 1 ∧ meetA tail head i j) ∨ (r = 0 ∧ ¬ meetA tail head i j)) := by
  unfold m_Mo_meet
  rw [gC_t (inb_nI hi (by omega)), gC_t (inb_nI hj (by omega)), nI_clamp (by omega), nI_clamp (by omega)]
  refine OK_gB ?_
  try dsimp only
  by_cases h1 : tail i = tail j
  · rw [if_pos h1]; exact OK_some (Or.inl ⟨rfl, Or.inl h1⟩)
  · rw [if_neg h1, gC_t (inb_nI hi (by omega)), gC_t (inb_nI hj (by omega))]
    by_cases h2 : tail i = head j
    · rw [if_pos h2]; exact OK_some (Or.inl ⟨rfl, Or.inr (Or.inl h2)⟩)
    · rw [if_neg h2, gC_t (inb_nI hi (by omega)), gC_t (inb_nI hj (by omega))]
      by_cases h3 : head i = tail j
      · rw [if_pos h3]; exact OK_some (Or.inl ⟨rfl, Or.inr (Or.inr (Or.inl h3))⟩)
      · rw [if_neg h3, gC_t (inb_nI hi (by omega)), gC_t (inb_nI hj (by omega))]
        by_cases h4 : head i = head j
        · rw [if_pos h4]; exact OK_some (Or.inl ⟨rfl, Or.inr (Or.inr (Or.inr h4))⟩)
        · rw [if_neg h4]
          refine OK_some (Or.inr ⟨rfl, fun w => ?_⟩)
          rcases w with w | w | w | w
          · exact h1 w
          · exact h2 w
          · exact h3 w
          · exact h4 w
theorem Mo_searchArcs_ok {F m k : Nat} {t n' y zz x e1 e2 : Int32} {tail head row : Nat → Int32} (hm : m ≤ 16) (hk : k ≤ 16) (hF : 40 ^ 18 < F) : OK (m_Mo_searchArcs F t n' (nI m) y zz e1 e2 tail head row (nI k)) (fun r => (r.1 = 1 ∧ ∃ f : Nat → Nat, (∀ i, i < m → r.2 i = nI (f i)) ∧ Fst m (VA tail head m k) f) ∨ (r.1 = 0 ∧ ∀ g, ¬ VA tail head m k g)) := by
  have hF12 : 100 < F := by omega
  have hFn : 40 ^ (m + 1) < F := Nat.lt_of_le_of_lt (Nat.pow_le_pow_right (by omega) (by omega)) hF
  refine OK_mono (P := fun r => (r.1 = 1 ∧ ∃ f : Nat → Nat, (∀ i, i < m → r.2 i = nI (f i)) ∧ Fst m (Rt m (AdA tail head k)) f) ∨ (r.1 = 0 ∧ ∀ g, ¬ Rt m (AdA tail head k) g)) ?_ ?_
  case refine_2 =>
    rintro r (⟨h1, f, h2, h3⟩ | ⟨h1, h2⟩)
    · exact Or.inl ⟨h1, f, h2, Fst_sub (fun g => Rt_VA) (fun g => VA_Rt) h3⟩
    · exact Or.inr ⟨h1, none_sub (N := m) (fun g => VA_Rt) h2⟩
  unfold m_Mo_searchArcs
  generalize hA : AdA tail head k = A
  have hAe : ∀ f g i c, eqB f g i → A f i c → A g i c := by subst hA; exact AdA_eqB
  generalize hPP : (fun r : Int32 × (Nat → Int32) => (r.1 = 1 ∧ ∃ f : Nat → Nat, (∀ i, i < m → r.2 i = nI (f i)) ∧ Fst m (Rt m A) f) ∨ (r.1 = 0 ∧ ∀ g, ¬ Rt m A g)) = PP
  refine OK_gLm (fun w z => (∃ (d x : Nat) (r : Nat → Nat) (row : Nat → Int32), z = (nI d, nI x, row) ∧ (∀ i, i < d → row i = nI (r i)) ∧ BI m k A d x r ∧ w + muB m d x r = 40 ^ (m + 1)) ∨ (∃ (x : Int32) (row : Nat → Int32), z = (-1, x, row) ∧ w = 0 ∧ ∀ g, ¬ Rt m A g)) ?_ F (40 ^ (m + 1)) _ (Or.inl ⟨0, 0, fun _ => 0, row, rfl, fun i hi => by omega, BI_0 _, by show _ + (0 + 2 * 0 * _) = _; omega⟩) hFn
  intro k1 w z hz hk1
  rcases hz with ⟨d, x, r, row, rfl, hrow, hB, hmu⟩ | ⟨x, row, rfl, rfl, hno⟩
  · try dsimp only
    obtain ⟨hd, hx, hrk, hra, hall⟩ := id hB
    refine OK_gB ?_
    try dsimp only
    rw [if_neg (show ¬ nI d < 0 from nI_nlt (a := d) (b := 0) (by omega) (by omega))]
    by_cases hdn : d = m
    · subst hdn
      rw [if_pos (nI_le (Nat.le_refl _) (by omega)), if_pos rfl, ← hPP]
      exact OK_some (Or.inl ⟨rfl, r, hrow, BI_done hB⟩)
    · have hdn' : d < m := by omega
      rw [if_neg (nI_ge hdn' (by omega))]
      have hmb : muB m d x r < 40 ^ (m + 1) := muB_lt hd (by omega) (fun i hi => by have := hrk i hi; omega)
      refine OK_for d (fun u z => z = (nI (usedN r u), nI u)) ?_ ?_ F 0 _ (by omega) rfl (by omega)
      · rintro k2 z rfl
        try dsimp only
        have hul := usedN_le (f := r) (k := k) d hrk
        rw [if_pos (nI_le (Nat.le_refl _) (by omega))]
        refine OK_gBQ (fun J => ∀ top : Nat, top ≤ k → (∀ c, c < top ↔ c < k ∧ c ≤ usedN r d) → OK (J (nI top)) PP) ?_ ?_
        · intro top htk htop
          try dsimp only
          have back : (∀ c', x ≤ c' → ¬ A r d c') → OK (gB (nI d + (-1)) (fun x2_14 =>
              if x2_14 < 0 then (
                k1 (x2_14, 0, row)
              ) else (
                gC (inb x2_14 40) (
                gB ((row x2_14.toNatClampNeg) + 1) (fun x3_17 =>
                k1 (x2_14, x3_17, row)))
              ))) PP := by
            intro hno
            rw [gB_eq]
            cases d with
            | zero =>
              rw [if_pos (show nI 0 + (-1) < 0 by decide)]
              exact hk1 0 _ (by omega) (Or.inr ⟨_, _, rfl, rfl, BI_fail hAe hB hdn' hno⟩)
            | succ d =>
              have hrd := hrk d (by omega)
              rw [← nI_1 d, nI_add0, if_neg (show ¬ nI d < 0 from nI_nlt (a := d) (b := 0) (by omega) (by omega)), gC_t (inb_nI (by omega) (by omega)), nI_clamp (by omega), hrow d (by omega), gB_eq, nI_1]
              have hmB := muB_back (N := m) (d := d) (x := x) (r := r) (by omega) (by omega)
              have hm2 := muB_lt (N := m) (d := d) (x := r d + 1) (r := r) (by omega) (by omega) (fun i hi => by have := hrk i (by omega); omega)
              exact hk1 (40 ^ (m + 1) - muB m d (r d + 1) r) _ (by omega) (Or.inl ⟨d, r d + 1, r, row, rfl, fun i hi => hrow i (by omega), BI_back hAe hB hdn' hno, by omega⟩)
          refine OK_gLm (fun v z => (∃ c : Nat, z = (nI c, 0) ∧ x ≤ c ∧ v + c = 18 ∧ (c ≤ top ∨ c = x) ∧ ∀ c', x ≤ c' → c' < c → ¬ A r d c') ∨ (∃ c : Nat, z = (nI c, 1) ∧ x ≤ c ∧ v = 0 ∧ c < top ∧ A r d c ∧ ∀ c', x ≤ c' → c' < c → ¬ A r d c')) ?_ F (18 - x) _ (Or.inl ⟨x, rfl, Nat.le_refl _, by omega, Or.inr rfl, fun c' h1 h2 => by omega⟩) (by omega)
          rintro k3 v z (⟨c, rfl, hxc, hv, hct, hno⟩ | ⟨c, rfl, hxc, rfl, hct, hac, hno⟩) hk3
          · try dsimp only
            refine OK_gB ?_
            try dsimp only
            by_cases hc : c < top
            · rw [if_neg (nI_ge hc (by omega)), if_pos rfl]
              have hck := (htop c).mp hc
              refine OK_for d (fun u z => (z = (1, nI u) ∧ ∀ u', u' < u → r u' = c → ¬ meetA tail head u' d) ∨ (z = (0, nI u) ∧ ¬ A r d c)) ?_ ?_ F 0 _ (by omega) (Or.inl ⟨rfl, fun u hu => by omega⟩) (by omega)
              · rintro k4 z (⟨rfl, hq⟩ | ⟨rfl, hq⟩)
                · try dsimp only
                  rw [if_pos (nI_le (Nat.le_refl _) (by omega)), if_neg (show ¬ (1 : Int32) = 0 by decide), gB_eq, show nI c + 0 = nI c from Int32.add_zero _]
                  refine hk3 0 _ (by omega) (Or.inr ⟨c, rfl, hxc, rfl, hc, ?_, hno⟩)
                  subst hA
                  exact ⟨hck.1, hck.2, hq⟩
                · try dsimp only
                  rw [if_pos (nI_le (Nat.le_refl _) (by omega)), if_pos rfl, gB_eq, nI_1]
                  refine hk3 (v - 1) _ (by omega) (Or.inl ⟨c + 1, rfl, by omega, by omega, Or.inl (by omega), fun c' h1 h2 => ?_⟩)
                  by_cases e : c' = c
                  · rw [e]; exact hq
                  · exact hno c' h1 (by omega)
              · rintro k4 u z hu (⟨rfl, hq⟩ | ⟨rfl, hq⟩) hk4
                · try dsimp only
                  rw [if_neg (nI_ge hu (by omega)), if_neg (show ¬ (1 : Int32) = 0 by decide), gC_t (inb_nI (by omega) (by omega)), nI_clamp (by omega), hrow u hu]
                  refine OK_gB ?_
                  try dsimp only
                  have hru := hrk u hu
                  by_cases hr : r u = c
                  · rw [if_pos (by rw [hr])]
                    refine OK_gM (Mo_meet_ok (by omega) (by omega)) ?_
                    rintro q (⟨rfl, hq2⟩ | ⟨rfl, hq2⟩)
                    · rw [if_neg (show ¬ (1 : Int32) = 0 by decide), gB_eq, nI_1]
                      refine hk4 _ (Or.inr ⟨rfl, fun w => ?_⟩)
                      subst hA
                      exact w.2.2 u hu hr hq2
                    · rw [if_pos rfl, gB_eq, nI_1]
                      exact hk4 _ (Or.inl ⟨rfl, lt_s hq (fun _ => hq2)⟩)
                  · rw [if_neg (fun w => hr (nI_inj (by omega) (by omega) w)), gB_eq, nI_1]
                    exact hk4 _ (Or.inl ⟨rfl, lt_s hq (fun w => absurd w hr)⟩)
                · try dsimp only
                  rw [if_neg (nI_ge hu (by omega)), if_pos rfl, gB_eq, nI_1]
                  exact hk4 _ (Or.inr ⟨rfl, hq⟩)
            · rw [if_pos (nI_le (by omega) (by omega)), if_pos rfl]
              refine back (fun c' h1 h2 => ?_)
              by_cases q : c' < c
              · exact hno c' h1 q h2
              · subst hA
                have := (htop c').mpr ⟨h2.1, h2.2.1⟩
                omega
          · try dsimp only
            refine OK_gB ?_
            try dsimp only
            rw [if_neg (nI_ge hct (by omega)), if_neg (show ¬ (1 : Int32) = 0 by decide), if_neg (show ¬ (1 : Int32) = 0 by decide), gC_t (inb_nI (by omega) (by omega)), gB_eq, nI_1, nI_clamp (by omega)]
            have hmB := muB_fwd (N := m) (d := d) (r := r) hxc
            have hmb2 : muB m (d + 1) 0 (setN r d c) < 40 ^ (m + 1) := muB_lt (by omega) (by omega) (fun i hi => by
              by_cases e : i = d
              · rw [e, setN_same]; omega
              · rw [setN_ne e]; have := hrk i (by omega); omega)
            refine hk1 (40 ^ (m + 1) - muB m (d + 1) 0 (setN r d c)) _ (by omega) (Or.inl ⟨d + 1, 0, setN r d c, _, rfl, fun i hi => ?_, BI_fwd hAe hB hdn' (by omega) hxc hac hno, by omega⟩)
            by_cases e : i = d
            · subst e; rw [upd_same, setN_same]
            · rw [upd_ne e, setN_ne e]; exact hrow i (by omega)
        · intro J hJ
          try dsimp only
          by_cases q : k ≤ usedN r d
          · rw [if_pos (nI_le q (by omega))]
            exact hJ k (Nat.le_refl _) (fun c => ⟨fun w => ⟨w, by omega⟩, fun w => w.1⟩)
          · rw [if_neg (nI_ge (by omega) (by omega)), nI_1]
            exact hJ (usedN r d + 1) (by omega) (fun c => ⟨fun w => ⟨by omega, by omega⟩, fun w => by omega⟩)
      · rintro k2 u z hu rfl hk2
        try dsimp only
        have hul := usedN_le (f := r) (k := k) u (fun i hi => hrk i (by omega))
        have hru := hrk u hu
        rw [if_neg (nI_ge hu (by omega)), gC_t (inb_nI (by omega) (by omega)), nI_clamp (by omega), hrow u hu]
        by_cases q : usedN r u ≤ r u
        · rw [if_neg (nI_nlt q (by omega)), gC_t (inb_nI (by omega) (by omega)), gB_eq, gB_eq, nI_1, nI_1]
          exact hk2 _ (by rw [usedN_s, if_pos q])
        · rw [if_pos (nI_lt (by omega) (by omega)), gB_eq, nI_1]
          exact hk2 _ (by rw [usedN_s, if_neg q])
  · try dsimp only
    refine OK_gB ?_
    try dsimp only
    rw [if_pos (show (-1 : Int32) < 0 by decide), if_neg (fun q => by
      have h1 : (0 : Int32) ≤ nI m := nI_pos' (by omega)
      rw [← q] at h1
      exact absurd h1 (by decide)), ← hPP]
    exact OK_some (Or.inr ⟨rfl, hno⟩)
/-- the answer of arcs -/
def arcsIs (tail head : Nat → Int32) (m k : Nat) (f : Nat → Nat) : Prop := k ≤ m ∧ (∀ j, j < k → ∀ g, ¬ VA tail head m j g) ∧ Fst m (VA tail head m k) f
def showsA (m : Nat) (f : Nat → Nat) (sh : Nat → Int32) : Prop := ∀ v, v < 40 → sh v = if v < m then nI (f v) else -1
theorem VA_id {tail head : Nat → Int32} {m : Nat} : VA tail head m m (fun i => i) := ⟨fun i hi => hi, fun i u hi hu hb e => by dsimp only at e; omega⟩
theorem arcsIs_uniq {tail head : Nat → Int32} {m k k' : Nat} {f f' : Nat → Nat} (h : arcsIs tail head m k f) (h' : arcsIs tail head m k' f') : k = k' ∧ eqB f f' m := by
  have e : k = k' := by
    rcases Nat.lt_trichotomy k k' with q | q | q
    · exact absurd h.2.2.1 (h'.2.1 k q f)
    · exact q
    · exact absurd h'.2.2.1 (h.2.1 k' q f')
  subst e
  exact ⟨rfl, Fst_uniq h.2.2 h'.2.2⟩
theorem Mo_arcs_ok {F m : Nat} {t n' y zz e1 e2 : Int32} {tail head sh row : Nat → Int32} (hm : m ≤ 16) (hF : 40 ^ 18 < F) : OK (m_Mo_arcs F t n' (nI m) y zz e1 e2 tail head sh row) (fun r => ∃ (k : Nat) (f : Nat → Nat), r.1 = nI k ∧ r.2.1 = 0 ∧ arcsIs tail head m k f ∧ showsA m f r.2.2.1) := by
  have hF12 : 100 < F := by omega
  unfold m_Mo_arcs
  refine OK_gB ?_
  try dsimp only
  rw [if_pos (show nI m ≤ 16 from nI_le (a := m) (b := 16) hm (by omega)), if_pos (show (0 : Int32) ≤ 0 by decide)]
  generalize hPP : (fun r : Int32 × Int32 × (Nat → Int32) × (Nat → Int32) => ∃ (k : Nat) (f : Nat → Nat), r.1 = nI k ∧ r.2.1 = 0 ∧ arcsIs tail head m k f ∧ showsA m f r.2.2.1) = PP
  have keep : ∀ (k : Nat) (f : Nat → Nat) (row2 : Nat → Int32), arcsIs tail head m k f → (∀ i, i < m → row2 i = nI (f i)) → OK (gL (fun (k_45 : (Int32 × (Nat → Int32)) → Option (Int32 × Int32 × (Nat → Int32) × (Nat → Int32))) (z_45 : Int32 × (Nat → Int32)) => match z_45 with
        | (x2_12, w0_shades_13) =>
        if (40 : Int32) ≤ x2_12 then (
          some (nI k, 0, w0_shades_13, row2)
        ) else (
          gB (α := Int32 → Option (Int32 × Int32 × (Nat → Int32) × (Nat → Int32))) (fun s_15 =>
            gC (inb x2_12 40) (
            gB (x2_12 + 1) (fun x2_17 =>
            k_45 (x2_17, upd w0_shades_13 x2_12.toNatClampNeg s_15)))
          ) (fun J_74 =>
          if nI m ≤ x2_12 then (
            J_74 (-1)
          ) else (
            gC (inb x2_12 40) (
            J_74 (row2 x2_12.toNatClampNeg))
          )
          )
        )
        ) F (0, sh)) PP := by
    intro k f row2 hk hrow
    refine OK_for 40 (fun i z => ∃ s : Nat → Int32, z = (nI i, s) ∧ ∀ v, v < i → s v = if v < m then nI (f v) else -1) ?_ ?_ F 0 _ (by omega) ⟨sh, rfl, fun v hv => by omega⟩ (by omega)
    · rintro k1 z ⟨s, rfl, hs⟩
      try dsimp only
      rw [if_pos (show (40 : Int32) ≤ nI 40 from nI_le (Nat.le_refl _) (by omega)), ← hPP]
      exact OK_some ⟨k, f, rfl, rfl, hk, hs⟩
    · rintro k1 i z hi ⟨s, rfl, hs⟩ hk1
      try dsimp only
      rw [if_neg (show ¬ (40 : Int32) ≤ nI i from nI_ge (a := i) (b := 40) hi (by omega))]
      refine OK_gBQ (fun J => ∀ x : Int32, x = (if i < m then nI (f i) else -1) → OK (J x) PP) ?_ ?_
      · intro x hx
        try dsimp only
        rw [gC_t (inb_nI hi (by omega)), gB_eq, nI_1, nI_clamp (by omega)]
        refine hk1 _ ⟨_, rfl, fun v hv => ?_⟩
        by_cases e : v = i
        · subst e; rw [upd_same]; exact hx
        · rw [upd_ne e]; exact hs v (by omega)
      · intro J hJ
        try dsimp only
        by_cases q : i < m
        · rw [if_neg (nI_ge q (by omega)), gC_t (inb_nI hi (by omega)), nI_clamp (by omega)]
          exact hJ _ (by rw [if_pos q]; exact hrow i q)
        · rw [if_pos (nI_le (by omega) (by omega))]
          exact hJ _ (by rw [if_neg q])
  refine OK_for m (fun k z => ∃ row : Nat → Int32, z = (nI k, row) ∧ ∀ j, j < k → ∀ g, ¬ VA tail head m j g) ?_ ?_ F 0 _ (by omega) ⟨row, rfl, fun j hj => by omega⟩ (by omega)
  · rintro k1 z ⟨row, rfl, hno⟩
    try dsimp only
    refine OK_gM (Mo_searchArcs_ok (x := 0) hm hm hF) ?_
    rintro ⟨q, row2⟩ (⟨rfl, f, hrow, hf⟩ | ⟨rfl, h2⟩)
    · try dsimp only
      rw [if_neg (show ¬ (1 : Int32) = 0 by decide)]
      exact keep m f row2 ⟨Nat.le_refl _, hno, hf⟩ hrow
    · exact absurd VA_id (h2 _)
  · rintro k1 k z hk ⟨row, rfl, hno⟩ hk1
    try dsimp only
    refine OK_gM (Mo_searchArcs_ok (x := 0) hm (by omega : k ≤ 16) hF) ?_
    rintro ⟨q, row2⟩ (⟨rfl, f, hrow, hf⟩ | ⟨rfl, h2⟩)
    · try dsimp only
      rw [if_neg (show ¬ (1 : Int32) = 0 by decide)]
      exact keep k f row2 ⟨by omega, hno, hf⟩ hrow
    · try dsimp only
      rw [if_pos rfl, gB_eq, nI_1]
      refine hk1 _ ⟨row2, rfl, fun j hj => ?_⟩
      by_cases e : j = k
      · rw [e]; exact h2
      · exact hno j (by omega)
theorem Mo_arcs_no {F m : Nat} {t n' y zz e1 e2 : Int32} {tail head sh row : Nat → Int32} (hm : 16 < m) (hm2 : m ≤ 40) : m_Mo_arcs F t n' (nI m) y zz e1 e2 tail head sh row = some (0, 1, sh, row) := by
  unfold m_Mo_arcs
  rw [gB_eq, if_neg (show ¬ nI m ≤ 16 from nI_ge (a := 16) (b := m) hm (by omega))]
  try dsimp only
  rw [if_neg (show ¬ (1 : Int32) ≤ 0 by decide)]
