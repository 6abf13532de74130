/-! the reference's rows of the net stand for the class's; what follows from equal rows -/
theorem VC_nr {near near' : Nat → Int32} {n : Nat} (h : ∀ v, v < n → near' v = near v) (k : Nat) (ev : Prop) : VC near' n k ev = VC near n k ev := by
  funext f
  apply propext
  unfold VC
  exact ⟨fun ⟨a, b, c⟩ => ⟨a, fun i u hi hu hb => b i u hi hu (by rw [h i hi]; exact hb), c⟩, fun ⟨a, b, c⟩ => ⟨a, fun i u hi hu hb => b i u hi hu (by rw [← h i hi]; exact hb), c⟩⟩
theorem leastIs_nr {near near' : Nat → Int32} {n k : Nat} {f : Nat → Nat} (h : ∀ v, v < n → near' v = near v) (w : leastIs near' n k f) : leastIs near n k f := by
  unfold leastIs at *
  simp only [VC_nr h] at w
  exact w
theorem evenIs_nr {near near' : Nat → Int32} {n k : Nat} {r : Int32} {co : Nat → Int32} (h : ∀ v, v < n → near' v = near v) (w : evenIs near' n k r co) : evenIs near n k r co := by
  unfold evenIs at *
  simp only [VC_nr h] at w
  exact w
theorem VL_nr {near near' li li' : Nat → Int32} {n : Nat} (h : ∀ v, v < n → near' v = near v) (hl : ∀ v, v < n → li' v = li v) : VL near' li' n = VL near li n := by
  funext f
  apply propext
  unfold VL
  exact ⟨fun ⟨a, b⟩ => ⟨fun i hi => ⟨(a i hi).1, by rw [← hl i hi]; exact (a i hi).2⟩, fun i u hi hu hb => b i u hi hu (by rw [h i hi]; exact hb)⟩, fun ⟨a, b⟩ => ⟨fun i hi => ⟨(a i hi).1, by rw [hl i hi]; exact (a i hi).2⟩, fun i u hi hu hb => b i u hi hu (by rw [← h i hi]; exact hb)⟩⟩
theorem listsIs_nr {near near' li li' : Nat → Int32} {n : Nat} {r : Int32} {co : Nat → Int32} (h : ∀ v, v < n → near' v = near v) (hl : ∀ v, v < n → li' v = li v) (w : listsIs near' li' n r co) : listsIs near li n r co := by
  unfold listsIs at *
  rw [VL_nr h hl] at w
  exact w
theorem shows_eq {n : Nat} {f g : Nat → Nat} {c1 c2 : Nat → Int32} (e : eqB f g n) (h1 : shows n f c1) (h2 : shows n g c2) : ∀ v, v < 12 → c2 v = c1 v := by
  intro v hv
  rw [h1 v hv, h2 v hv]
  by_cases q : v < n
  · rw [if_pos q, if_pos q, e v q]
  · rw [if_neg q, if_neg q]
theorem showsA_eq {m : Nat} {f g : Nat → Nat} {c1 c2 : Nat → Int32} (e : eqB f g m) (h1 : showsA m f c1) (h2 : showsA m g c2) : ∀ v, v < 40 → c2 v = c1 v := by
  intro v hv
  rw [h1 v hv, h2 v hv]
  by_cases q : v < m
  · rw [if_pos q, if_pos q, e v q]
  · rw [if_neg q, if_neg q]
theorem fst_two {n : Nat} {V : (Nat → Nat) → Prop} {r1 r2 : Int32} {c1 c2 : Nat → Int32} (h1 : (r1 = 1 ∧ ∃ f, Fst n V f ∧ shows n f c1) ∨ (r1 = 0 ∧ (∀ g, ¬ V g) ∧ ∀ v, v < 12 → c1 v = -1)) (h2 : (r2 = 1 ∧ ∃ f, Fst n V f ∧ shows n f c2) ∨ (r2 = 0 ∧ (∀ g, ¬ V g) ∧ ∀ v, v < 12 → c2 v = -1)) : r2 = r1 ∧ ∀ v, v < 12 → c2 v = c1 v := by
  rcases h1 with ⟨rfl, f, f1, f2⟩ | ⟨rfl, f1, f2⟩ <;> rcases h2 with ⟨rfl, g, g1, g2⟩ | ⟨rfl, g1, g2⟩
  · exact ⟨rfl, shows_eq (Fst_uniq f1 g1) f2 g2⟩
  · exact absurd f1.1 (g1 _)
  · exact absurd g1.1 (f1 _)
  · exact ⟨rfl, fun v hv => by rw [f2 v hv, g2 v hv]⟩
theorem evenIs_two {near : Nat → Int32} {n k : Nat} {r1 r2 : Int32} {c1 c2 : Nat → Int32} (h1 : evenIs near n k r1 c1) (h2 : evenIs near n k r2 c2) : r2 = r1 ∧ ∀ v, v < 12 → c2 v = c1 v := fst_two h1 h2
theorem listsIs_two {near li : Nat → Int32} {n : Nat} {r1 r2 : Int32} {c1 c2 : Nat → Int32} (h1 : listsIs near li n r1 c1) (h2 : listsIs near li n r2 c2) : r2 = r1 ∧ ∀ v, v < 12 → c2 v = c1 v := fst_two h1 h2
theorem nr0_nr {near near' : Nat → Int32} {n : Nat} (h : ∀ v, v < n → near' v = near v) : ∀ i j, i < n → j < n → (nr0 near' i j ↔ nr0 near i j) := fun i j hi _ => by
  show bt (near' i) j = true ↔ bt (near i) j = true
  rw [h i hi]
theorem bit_lt' {S n i : Nat} (hS : S < 2 ^ n) (hi : S.testBit i = true) : i < n := Nat.not_le.mp fun q => by rw [bit_ge hS q] at hi; cases hi
theorem wy_both {near near' li li' : Nat → Int32} {n : Nat} (h : ∀ v, v < n → near' v = near v) (hl : ∀ v, v < n → li' v = li v) {k S : Nat} (hS : S < 2 ^ n) : wy (al0 li') (nr0 near') n k S = wy (al0 li) (nr0 near) n k S := by
  rw [wy_nr (nr0_nr h) k S hS]
  exact wy_congr k S hS (fun i c hi _ => by show bt (li' i) c = true ↔ bt (li i) c = true; rw [hl i (bit_lt' hS hi)])
theorem pco_nr {nr nr' : Nat → Nat → Prop} {n S : Nat} (hn : n ≤ 13) (hS : S < 2 ^ n) (h : ∀ i j, i < n → j < n → (nr i j ↔ nr' i j)) : ∀ i, i < 14 → pco nr n S i = pco nr' n S i := evL_uniq (fun k => by
  rw [pco_ev hS hn k, pco_ev hS hn k, wy_nr h k S hS])
theorem DC_two {near near' li li' : Nat → Int32} {n : Nat} (h : ∀ v, v < n → near' v = near v) (hl : ∀ v, v < n → li' v = li v) {k S : Nat} (hS : S < 2 ^ n) : DC (al0 li') (nr0 near') k S ↔ DC (al0 li) (nr0 near) k S := by
  unfold DC
  constructor
  · rintro ⟨g, a, b⟩
    refine ⟨g, fun i hi => ⟨(a i hi).1, ?_⟩, fun i j hi hj q => b i j hi hj ?_⟩
    · have := (a i hi).2
      show bt (li i) (g i) = true
      rw [← hl i (bit_lt' hS hi)]; exact this
    · exact (nr0_nr h i j (bit_lt' hS hi) (bit_lt' hS hj)).mpr q
  · rintro ⟨g, a, b⟩
    refine ⟨g, fun i hi => ⟨(a i hi).1, ?_⟩, fun i j hi hj q => b i j hi hj ?_⟩
    · have := (a i hi).2
      show bt (li' i) (g i) = true
      rw [hl i (bit_lt' hS hi)]; exact this
    · exact (nr0_nr h i j (bit_lt' hS hi) (bit_lt' hS hj)).mp q
theorem whyF_two {D D' : Nat → Prop} {n : Nat} (hD : ∀ S, S < 2 ^ n → (D S ↔ D' S)) : ∀ v S, v ≤ n → S < 2 ^ n → whyF D v S = whyF D' v S := by
  intro v
  induction v with
  | zero => intro S _ _; rfl
  | succ v ih =>
    intro S hv hS
    unfold whyF
    have hr : rmB S v < 2 ^ n := by
      apply Nat.lt_pow_two_of_testBit
      intro i hi
      cases hb : (rmB S v).testBit i with
      | false => rfl
      | true =>
        have hx := (rmB_bit (s := S) (v := v) (i := i)).mp hb
        rw [bit_ge hS hi] at hx
        cases hx.1
    by_cases q : D (rmB S v)
    · rw [if_pos q, if_pos ((hD _ hr).mp q)]; exact ih S (by omega) hS
    · rw [if_neg q, if_neg (fun w => q ((hD _ hr).mpr w))]; exact ih _ (by omega) hr
theorem whyIs_two {near near' li li' : Nat → Int32} {n : Nat} (h : ∀ v, v < n → near' v = near v) (hl : ∀ v, v < n → li' v = li v) : whyIs near' li' n = whyIs near li n := by
  have hp : 2 ^ n - 1 < 2 ^ n := by have : 1 ≤ 2 ^ n := Nat.one_le_two_pow; omega
  have hD : ∀ S, S < 2 ^ n → (DC (al0 li') (nr0 near') 12 S ↔ DC (al0 li) (nr0 near) 12 S) := fun S hS => DC_two h hl hS
  unfold whyIs
  by_cases q : DC (al0 li') (nr0 near') 12 (2 ^ n - 1)
  · rw [if_pos q, if_pos ((hD _ hp).mp q)]
  · rw [if_neg q, if_neg (fun w => q ((hD _ hp).mpr w)), whyF_two hD n _ (Nat.le_refl _) hp]
theorem Mo_lists_ok2 {F n : Nat} {tt a y zz e1 e2 : Int32} {near lists co ia row can could : Nat → Int32} (hn : n ≤ 12) (hsy : ∀ i j, i < n → j < n → bt (near i) j = true → bt (near j) i = true) (hir : ∀ i, i < n → ¬ bt (near i) i = true) (hF : 5000 < F) : OK (m_Mo_lists F tt (nI n) a y zz e1 e2 near lists co ia row can could) (fun r => r.2.1 = 0 ∧ listsIs near lists n r.1 r.2.2.1) := by
  unfold m_Mo_lists
  refine OK_gM (Mo_sets_ok hn hF) ?_
  intro ia2 hia
  try dsimp only
  refine OK_gM (Mo_canGoOn_ok (f := 0) hn (Nat.zero_le _) hia hF) ?_
  rintro ⟨q, can2, could2⟩ hq
  try dsimp only at hq ⊢
  have hq0 : isD (fun _ => ∃ g, VL near lists n g) q 0 := by
    have e := CG_iff (near := near) (lists := lists) (row := row) (n := n) (it := 0) (r := fun _ => 0) hsy hir (Nat.zero_le _) (fun i hi => by omega) ⟨fun i hi => by omega, fun i u hi => by omega⟩
    unfold isD at hq ⊢
    rw [e] at hq
    rcases hq with ⟨rfl, g, h1, _⟩ | ⟨rfl, hno⟩
    · exact Or.inl ⟨rfl, g, h1⟩
    · exact Or.inr ⟨rfl, fun ⟨g, hg⟩ => hno ⟨g, hg, fun u hu => by omega⟩⟩
  generalize hPP : (fun r : Int32 × Int32 × (Nat → Int32) × (Nat → Int32) × (Nat → Int32) × (Nat → Int32) × (Nat → Int32) => r.2.1 = 0 ∧ listsIs near lists n r.1 r.2.2.1) = PP
  rcases hq0 with ⟨rfl, hex⟩ | ⟨rfl, hno⟩
  · refine OK_for n (fun it z => ∃ (row can could : Nat → Int32) (r : Nat → Nat), z = (nI it, row, can, could) ∧ (∀ i, i < it → row i = nI (r i)) ∧ VL near lists it r ∧ (∃ g, VL near lists n g ∧ eqB r g it) ∧ ∀ g, VL near lists n g → eqB r g it ∨ ∃ j, j < it ∧ eqB r g j ∧ r j < g j) ?_ ?_ F 0 _ (Nat.zero_le _) ⟨row, can2, could2, fun _ => 0, rfl, fun i hi => by omega, ⟨fun i hi => by omega, fun i u hi => by omega⟩, (by obtain ⟨g, hg⟩ := hex; exact ⟨g, hg, fun u hu => by omega⟩), fun g _ => Or.inl (fun u hu => by omega)⟩ (by omega)
    · rintro k1 z ⟨row, can, could, r, rfl, hrow, hr, _, hlex⟩
      try dsimp only
      refine OK_gB ?_
      try dsimp only
      rw [if_pos (nI_le (Nat.le_refl _) (by omega))]
      refine OK_gM (Mo_keep_ok hn (by omega)) ?_
      intro co2 hco
      rw [if_neg (show ¬ (1 : Int32) = 0 by decide), ← hPP]
      refine OK_some ⟨rfl, Or.inl ⟨rfl, r, ⟨hr, fun g hg => hlex g hg⟩, fun v hv => ?_⟩⟩
      show co2 v = _
      rw [hco v hv]
      by_cases q : v < n
      · rw [if_pos ⟨by decide, q⟩, if_pos q]; exact hrow v q
      · rw [if_neg (fun w => q w.2), if_neg q]
    · rintro k1 it z hit ⟨row, can, could, r, rfl, hrow, hr, ⟨g0, hg0, hge⟩, hlex⟩ hk1
      try dsimp only
      refine OK_gB ?_
      try dsimp only
      rw [if_neg (nI_ge hit (by omega)), if_neg (show ¬ (1 : Int32) = 0 by decide), gC_t (inb_nI (by omega) (by omega)), nI_clamp (by omega)]
      have hg12 := (hg0.1 it hit).1
      refine OK_gLm (fun m z => ∃ (c : Nat) (row2 can could : Nat → Int32), z = (row2, can, could) ∧ m + c = 12 ∧ row2 it = nI c ∧ (∀ i, i < it → row2 i = nI (r i)) ∧ ∀ g, VL near lists n g → eqB r g it → c ≤ g it) ?_ F 12 _ ⟨0, _, can, could, rfl, rfl, (by rw [upd_same, nI_0]), fun i hi => by rw [upd_ne (by omega)]; exact hrow i hi, fun g _ _ => Nat.zero_le _⟩ (by omega)
      rintro k2 m z ⟨c, row2, can, could, rfl, hmc, hc, hrow2, hle⟩ hk2
      have hcg := hle g0 hg0 hge
      try dsimp only
      rw [gC_t (inb_nI (by omega) (by omega)), gC_t (inb_nI (by omega) (by omega))]
      simp only [hc]
      refine OK_gBQ (fun J => ∀ can could : Nat → Int32, (∀ g, VL near lists n g → eqB r g it → ¬ g it = c) → OK (J can could) PP) ?_ ?_
      · intro can could hne
        try dsimp only
        rw [gC_t (inb_nI (by omega) (by omega)), gC_t (inb_nI (by omega) (by omega)), nI_1]
        have := hne g0 hg0 hge
        refine hk2 (m - 1) _ (by omega) ⟨c + 1, _, _, _, rfl, by omega, upd_same _ _ _, fun i hi => by rw [upd_ne (by omega)]; exact hrow2 i hi, fun g hg hge => ?_⟩
        have l1 := hle g hg hge
        have l2 := hne g hg hge
        omega
      · intro J hJ
        try dsimp only
        by_cases hb : bt (lists it) c = true
        · rw [if_neg ((b_ne_t (by omega)).mpr hb), gC_t (inb_nI (by omega) (by omega))]
          refine OK_gM (Mo_fits_ok (i := it) (by omega) (by omega)) ?_
          have fit : fitAt near row2 it (nI c) ↔ ∀ u, u < it → bt (near it) u = true → ¬ r u = c := by
            constructor
            · intro h u hu hb e
              exact h u hu hb (by rw [hrow2 u hu, e])
            · intro h u hu hb e
              have := (hr.1 u hu).1
              exact h u hu hb (nI_inj (by omega) (by omega) (by rw [← hrow2 u hu]; exact e))
          rintro q (⟨rfl, hq⟩ | ⟨rfl, hq⟩)
          · rw [fit] at hq
            rw [if_neg (show ¬ (1 : Int32) = 0 by decide), nI_1]
            refine OK_gM (Mo_canGoOn_ok (f := it + 1) hn (by omega) hia hF) ?_
            rintro ⟨q, can3, could3⟩ hq3
            try dsimp only at hq3 ⊢
            have hrow3 : ∀ i, i < it + 1 → row2 i = nI (setN r it c i) := by
              intro i hi
              by_cases e : i = it
              · subst e; rw [setN_same]; exact hc
              · rw [setN_ne e]; exact hrow2 i (by omega)
            have hr3 : VL near lists (it + 1) (setN r it c) := by
              refine ⟨fun i hi => ?_, fun i u hi hu hb2 => ?_⟩
              · by_cases e : i = it
                · subst e; rw [setN_same]; exact ⟨by omega, hb⟩
                · rw [setN_ne e]; exact hr.1 i (by omega)
              · by_cases e : i = it
                · subst e; rw [setN_same, setN_ne (by omega)]; exact hq u hu hb2
                · rw [setN_ne e, setN_ne (by omega)]; exact hr.2 i u (by omega) hu hb2
            have hcg2 := CG_iff (n := n) hsy hir (by omega : it + 1 ≤ n) hrow3 hr3
            have hset : ∀ g, eqB r g it → g it = c → eqB (setN r it c) g (it + 1) := by
              intro g e1 e2 u hu
              by_cases e : u = it
              · subst e; rw [setN_same]; exact e2.symm
              · rw [setN_ne e]; exact e1 u (by omega)
            unfold isD at hq3
            rw [hcg2] at hq3
            rcases hq3 with ⟨rfl, g, hg, hge2⟩ | ⟨rfl, hno⟩
            · rw [if_neg (show ¬ (1 : Int32) = 0 by decide), gB_eq]
              refine hk1 _ ⟨_, _, _, setN r it c, rfl, hrow3, hr3, ⟨g, hg, hge2⟩, fun g' hg' => ?_⟩
              rcases hlex g' hg' with e | ⟨j, hj, e, l⟩
              · have := hle g' hg' e
                by_cases e2 : g' it = c
                · exact Or.inl (hset g' e e2)
                · exact Or.inr ⟨it, by omega, eqB_trans (eqB_symm (setN_eqB r it c)) e, by rw [setN_same]; omega⟩
              · exact Or.inr ⟨j, by omega, eqB_trans (eqB_symm (eqB_le (setN_eqB r it c) (by omega))) e, by rw [setN_ne (by omega)]; exact l⟩
            · rw [if_pos rfl]
              exact hJ _ _ (fun g hg hge e => hno ⟨g, hg, hset g hge e⟩)
          · rw [fit] at hq
            rw [if_pos rfl]
            refine hJ _ _ (fun g hg hge e => hq (fun u hu hb2 e2 => hg.2 it u hit hu hb2 ?_))
            rw [← hge u hu, e2, e]
        · rw [if_pos ((b_test _ (by omega)).mpr (bt_f hb))]
          exact hJ _ _ (fun g hg hge e => hb (by rw [← e]; exact (hg.1 it hit).2))
  · obtain ⟨F', rfl⟩ : ∃ F', F = F' + 1 := ⟨F - 1, by omega⟩
    rw [gL_s]
    refine OK_gBQ (fun J => OK J PP) ?_ ?_
    · refine OK_gM (Mo_keep_ok hn (by omega)) ?_
      intro co2 hco
      rw [if_pos rfl, ← hPP]
      refine OK_some ⟨rfl, Or.inr ⟨rfl, fun g hg => hno ⟨g, hg⟩, fun v hv => ?_⟩⟩
      show co2 v = _
      rw [hco v hv, if_neg (fun w => w.1 rfl)]
    · intro J hJ
      try dsimp only
      by_cases q : nI n ≤ 0
      · rw [if_pos q]; exact hJ
      · rw [if_neg q, if_pos rfl]; exact hJ
