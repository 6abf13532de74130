/-! PURE, 36: lists, both sides -/
def VL (near lists : Nat → Int32) (n : Nat) (f : Nat → Nat) : Prop := (∀ i, i < n → f i < 12 ∧ bt (lists i) (f i) = true) ∧ ∀ i u, i < n → u < i → bt (near i) u = true → ¬ f u = f i
theorem full_bit {L i : Nat} : (2 ^ L - 1).testBit i = true ↔ i < L := by rw [Nat.testBit_two_pow_sub_one, decide_eq_true_iff]
theorem CG_iff {near lists row : Nat → Int32} {n it : Nat} {r : Nat → Nat} (hsym : ∀ i j, i < n → j < n → bt (near i) j = true → bt (near j) i = true) (hirr : ∀ i, i < n → ¬ bt (near i) i = true) (hit : it ≤ n) (hrow : ∀ i, i < it → row i = nI (r i)) (hr : VL near lists it r) : DC (alG near lists row it) (nrG near it) 12 (2 ^ (n - it) - 1) ↔ ∃ g, VL near lists n g ∧ eqB r g it := by
  constructor
  · rintro ⟨h, h1, h2⟩
    refine ⟨fun i => if i < it then r i else h (i - it), ⟨fun i hi => ?_, fun i u hi hu hb => ?_⟩, fun u hu => (if_pos hu).symm⟩
    · dsimp only
      by_cases q : i < it
      · rw [if_pos q]; exact hr.1 i q
      · rw [if_neg q]
        have := h1 (i - it) (full_bit.mpr (by omega))
        refine ⟨this.1, ?_⟩
        have h3 := this.2.1
        rwa [show it + (i - it) = i by omega] at h3
    · dsimp only
      by_cases q : i < it
      · rw [if_pos q, if_pos (by omega)]
        exact hr.2 i u q hu hb
      · rw [if_neg q]
        have hi2 := h1 (i - it) (full_bit.mpr (by omega))
        by_cases q2 : u < it
        · rw [if_pos q2]
          have h3 := hi2.2.2 u q2 (by rw [show it + (i - it) = i by omega]; exact hb)
          exact fun e => h3 (by rw [hrow u q2, e])
        · rw [if_neg q2]
          refine fun e => h2 (i - it) (u - it) (full_bit.mpr (by omega)) (full_bit.mpr (by omega)) ?_ e.symm
          unfold nrG
          rw [show it + (i - it) = i by omega, show it + (u - it) = u by omega]
          exact hb
  · rintro ⟨g, ⟨g1, g2⟩, ge⟩
    have key : ∀ i u, i < n → u < n → bt (near i) u = true → ¬ g i = g u := by
      intro i u hi hu hb
      rcases Nat.lt_trichotomy i u with h | h | h
      · exact g2 u i hu h (hsym i u hi hu hb)
      · subst h; exact absurd hb (hirr i hi)
      · exact fun e => g2 i u hi h hb e.symm
    refine ⟨fun i => g (it + i), fun i hi => ?_, fun i j hi hj hn => ?_⟩
    · have hi' := full_bit.mp hi
      refine ⟨(g1 (it + i) (by omega)).1, (g1 (it + i) (by omega)).2, fun m hm hb e => ?_⟩
      rw [hrow m hm, ge m hm] at e
      have e' : nI (g m) = nI (g (it + i)) := e
      have l1 := (g1 m (by omega)).1
      have l2 := (g1 (it + i) (by omega)).1
      exact key (it + i) m (by omega) (by omega) hb (nI_inj (by omega) (by omega) e').symm
    · exact key (it + i) (it + j) (by have := full_bit.mp hi; omega) (by have := full_bit.mp hj; omega) hn
/-- the answer of lists -/
def listsIs (near lists : Nat → Int32) (n : Nat) (r : Int32) (co : Nat → Int32) : Prop := (r = 1 ∧ ∃ f, Fst n (VL near lists n) f ∧ shows n f co) ∨ (r = 0 ∧ (∀ g, ¬ VL near lists n g) ∧ ∀ v, v < 12 → co v = -1)
theorem VL_le {near lists : Nat → Int32} {n m : Nat} {f : Nat → Nat} (h : VL near lists n f) (hm : m ≤ n) : VL near lists m f := ⟨fun i hi => h.1 i (by omega), fun i u hi hu hb => h.2 i u (by omega) hu hb⟩
theorem VL_eqB {near lists : Nat → Int32} {n : Nat} {f g : Nat → Nat} (e : eqB f g n) (h : VL near lists n f) : VL near lists n g := ⟨fun i hi => by rw [← e i hi]; exact h.1 i hi, fun i u hi hu hb => by rw [← e i hi, ← e u (by omega)]; exact h.2 i u hi hu hb⟩
theorem Mo_lists_ok {F n ka : Nat} {tt a y zz e1 e2 : Int32} {near tail head lists co ia row can could : Nat → Int32} (h : GR n ka near tail head) (hF : 5000 < F) : OK (m_Mo_lists F tt (nI n) a y zz e1 e2 near lists co ia row can could) (fun r => r.2.1 = 0 ∧ listsIs near lists n r.1 r.2.2.1) := by
  have hn := h.1
  unfold m_Mo_lists
  refine OK_gM (Mo_sets_ok hn hF) ?_
  intro ia2 hia
  try dsimp only
  refine OK_gM (Mo_canGoOn_ok (f := 0) hn (Nat.zero_le _) hia hF) ?_
  rintro ⟨q, can2, could2⟩ hq
  try dsimp only at hq ⊢
  have hq0 : isD (fun _ => ∃ g, VL near lists n g) q 0 := by
    have e := CG_iff (near := near) (lists := lists) (row := row) (n := n) (it := 0) (r := fun _ => 0) (GR_sym' h) (GR_irr h) (Nat.zero_le _) (fun i hi => by omega) ⟨fun i hi => by omega, fun i u hi => by omega⟩
    unfold isD at hq ⊢
    rw [e] at hq
    rcases hq with ⟨rfl, g, h1, _⟩ | ⟨rfl, hno⟩
    · exact Or.inl ⟨rfl, g, h1⟩
    · exact Or.inr ⟨rfl, fun ⟨g, hg⟩ => hno ⟨g, hg, fun u hu => by omega⟩⟩
  generalize hPP : (fun r : Int32 × Int32 × (Nat → Int32) × (Nat → Int32) × (Nat → Int32) × (Nat → Int32) × (Nat → Int32) => r.2.1 = 0 ∧ listsIs near lists n r.1 r.2.2.1) = PP
  rcases hq0 with ⟨rfl, hex⟩ | ⟨rfl, hno⟩
  · refine OK_for n (fun it z => ∃ (row can could : Nat → Int32) (r : Nat → Nat), z = (nI it, row, can, could) ∧ (∀ i, i < it → row i = nI (r i)) ∧ VL near lists it r ∧ (∃ g, VL near lists n g ∧ eqB r g it) ∧ ∀ g, VL near lists n g → eqB r g it ∨ ∃ j, j < it ∧ eqB r g j ∧ r j < g j) ?_ ?_ F 0 _ (Nat.zero_le _) ⟨row, can2, could2, fun _ => 0, rfl, fun i hi => by omega, ⟨fun i hi => by omega, fun i u hi => by omega⟩, (by obtain ⟨g, hg⟩ := hex; exact ⟨g, hg, fun u hu => by omega⟩), fun g _ => Or.inl (fun u hu => by omega)⟩ (by omega)
    · rintro k1 z ⟨row, can, could, r, rfl, hrow, hr, _, hlex⟩
      try dsimp only
      refine OK_gB ?_
      try dsimp only
      rw [if_pos (nI_le (Nat.le_refl _) (by omega))]
      refine OK_gM (Mo_keep_ok hn (by omega)) ?_
      intro co2 hco
      rw [if_neg (show ¬ (1 : Int32) = 0 by decide), ← hPP]
      refine OK_some ⟨rfl, Or.inl ⟨rfl, r, ⟨hr, fun g hg => hlex g hg⟩, fun v hv => ?_⟩⟩
      show co2 v = _
      rw [hco v hv]
      by_cases q : v < n
      · rw [if_pos ⟨by decide, q⟩, if_pos q]; exact hrow v q
      · rw [if_neg (fun w => q w.2), if_neg q]
    · rintro k1 it z hit ⟨row, can, could, r, rfl, hrow, hr, ⟨g0, hg0, hge⟩, hlex⟩ hk1
      try dsimp only
      refine OK_gB ?_
      try dsimp only
      rw [if_neg (nI_ge hit (by omega)), if_neg (show ¬ (1 : Int32) = 0 by decide), gC_t (inb_nI (by omega) (by omega)), nI_clamp (by omega)]
      have hg12 := (hg0.1 it hit).1
      refine OK_gLm (fun m z => ∃ (c : Nat) (row2 can could : Nat → Int32), z = (row2, can, could) ∧ m + c = 12 ∧ row2 it = nI c ∧ (∀ i, i < it → row2 i = nI (r i)) ∧ ∀ g, VL near lists n g → eqB r g it → c ≤ g it) ?_ F 12 _ ⟨0, _, can, could, rfl, rfl, (by rw [upd_same, nI_0]), fun i hi => by rw [upd_ne (by omega)]; exact hrow i hi, fun g _ _ => Nat.zero_le _⟩ (by omega)
      rintro k2 m z ⟨c, row2, can, could, rfl, hmc, hc, hrow2, hle⟩ hk2
      have hcg := hle g0 hg0 hge
      try dsimp only
      rw [gC_t (inb_nI (by omega) (by omega)), gC_t (inb_nI (by omega) (by omega))]
      simp only [hc]
      refine OK_gBQ (fun J => ∀ can could : Nat → Int32, (∀ g, VL near lists n g → eqB r g it → ¬ g it = c) → OK (J can could) PP) ?_ ?_
      · intro can could hne
        try dsimp only
        rw [gC_t (inb_nI (by omega) (by omega)), gC_t (inb_nI (by omega) (by omega)), nI_1]
        have := hne g0 hg0 hge
        refine hk2 (m - 1) _ (by omega) ⟨c + 1, _, _, _, rfl, by omega, upd_same _ _ _, fun i hi => by rw [upd_ne (by omega)]; exact hrow2 i hi, fun g hg hge => ?_⟩
        have l1 := hle g hg hge
        have l2 := hne g hg hge
        omega
      · intro J hJ
        try dsimp only
        by_cases hb : bt (lists it) c = true
        · rw [if_neg ((b_ne_t (by omega)).mpr hb), gC_t (inb_nI (by omega) (by omega))]
          refine OK_gM (Mo_fits_ok (i := it) (by omega) (by omega)) ?_
          have fit : fitAt near row2 it (nI c) ↔ ∀ u, u < it → bt (near it) u = true → ¬ r u = c := by
            constructor
            · intro h u hu hb e
              exact h u hu hb (by rw [hrow2 u hu, e])
            · intro h u hu hb e
              have := (hr.1 u hu).1
              exact h u hu hb (nI_inj (by omega) (by omega) (by rw [← hrow2 u hu]; exact e))
          rintro q (⟨rfl, hq⟩ | ⟨rfl, hq⟩)
          · rw [fit] at hq
            rw [if_neg (show ¬ (1 : Int32) = 0 by decide), nI_1]
            refine OK_gM (Mo_canGoOn_ok (f := it + 1) hn (by omega) hia hF) ?_
            rintro ⟨q, can3, could3⟩ hq3
            try dsimp only at hq3 ⊢
            have hrow3 : ∀ i, i < it + 1 → row2 i = nI (setN r it c i) := by
              intro i hi
              by_cases e : i = it
              · subst e; rw [setN_same]; exact hc
              · rw [setN_ne e]; exact hrow2 i (by omega)
            have hr3 : VL near lists (it + 1) (setN r it c) := by
              refine ⟨fun i hi => ?_, fun i u hi hu hb2 => ?_⟩
              · by_cases e : i = it
                · subst e; rw [setN_same]; exact ⟨by omega, hb⟩
                · rw [setN_ne e]; exact hr.1 i (by omega)
              · by_cases e : i = it
                · subst e; rw [setN_same, setN_ne (by omega)]; exact hq u hu hb2
                · rw [setN_ne e, setN_ne (by omega)]; exact hr.2 i u (by omega) hu hb2
            have hcg2 := CG_iff (n := n) (GR_sym' h) (GR_irr h) (by omega : it + 1 ≤ n) hrow3 hr3
            have hset : ∀ g, eqB r g it → g it = c → eqB (setN r it c) g (it + 1) := by
              intro g e1 e2 u hu
              by_cases e : u = it
              · subst e; rw [setN_same]; exact e2.symm
              · rw [setN_ne e]; exact e1 u (by omega)
            unfold isD at hq3
            rw [hcg2] at hq3
            rcases hq3 with ⟨rfl, g, hg, hge2⟩ | ⟨rfl, hno⟩
            · rw [if_neg (show ¬ (1 : Int32) = 0 by decide), gB_eq]
              refine hk1 _ ⟨_, _, _, setN r it c, rfl, hrow3, hr3, ⟨g, hg, hge2⟩, fun g' hg' => ?_⟩
              rcases hlex g' hg' with e | ⟨j, hj, e, l⟩
              · have := hle g' hg' e
                by_cases e2 : g' it = c
                · exact Or.inl (hset g' e e2)
                · exact Or.inr ⟨it, by omega, eqB_trans (eqB_symm (setN_eqB r it c)) e, by rw [setN_same]; omega⟩
              · exact Or.inr ⟨j, by omega, eqB_trans (eqB_symm (eqB_le (setN_eqB r it c) (by omega))) e, by rw [setN_ne (by omega)]; exact l⟩
            · rw [if_pos rfl]
              exact hJ _ _ (fun g hg hge e => hno ⟨g, hg, hset g hge e⟩)
          · rw [fit] at hq
            rw [if_pos rfl]
            refine hJ _ _ (fun g hg hge e => hq (fun u hu hb2 e2 => hg.2 it u hit hu hb2 ?_))
            rw [← hge u hu, e2, e]
        · rw [if_pos ((b_test _ (by omega)).mpr (bt_f hb))]
          exact hJ _ _ (fun g hg hge e => hb (by rw [← e]; exact (hg.1 it hit).2))
  · obtain ⟨F', rfl⟩ : ∃ F', F = F' + 1 := ⟨F - 1, by omega⟩
    rw [gL_s]
    refine OK_gBQ (fun J => OK J PP) ?_ ?_
    · refine OK_gM (Mo_keep_ok hn (by omega)) ?_
      intro co2 hco
      rw [if_pos rfl, ← hPP]
      refine OK_some ⟨rfl, Or.inr ⟨rfl, fun g hg => hno ⟨g, hg⟩, fun v hv => ?_⟩⟩
      show co2 v = _
      rw [hco v hv, if_neg (fun w => w.1 rfl)]
    · intro J hJ
      try dsimp only
      by_cases q : nI n ≤ 0
      · rw [if_pos q]; exact hJ
      · rw [if_neg q, if_pos rfl]; exact hJ
theorem Pai_startLists_eq {F n : Nat} {a1 a2 a3 a4 a5 a6 b1 b2 : Int32} {pnear uses near al : Nat → Int32} {free : Nat → Nat → Int32} (hn : n ≤ 12) : m_Pai_startLists F a1 a2 a3 a4 a5 a6 pnear uses (nI n) b1 b2 near al free = some (nI n, 0, 12, 16, 0, 0, va_cpy near pnear 0 0 n, fillA 12 0 uses, gF free 0 (va_cpy al (free 0) 0 0 n)) := by
  unfold m_Pai_startLists m_Pai_start
  show gC _ _ = _
  rw [gC_t (cpyB_n (by omega) (by omega) (by omega)), gC_t (show inb 0 18 = true from inb_nI (i := 0) (by omega) (by omega)), gC_t (cpyB_n (by omega) (by omega) (by omega)), nI_clamp (by omega)]
  rfl
theorem VL_Pt {near near' lists row : Nat → Int32} {n s : Nat} {T : Nat → Bool} {ev : Prop} {u f : Nat → Nat} (hsym : ∀ i j, i < n → j < n → bt (near i) j = true → bt (near j) i = true) (hirr : ∀ i, i < n → ¬ bt (near i) i = true) (hnr : ∀ i, i < n → near' i = near i) (hrow : ∀ i, i < n → row i = lists i) (hev : ¬ ev) (hT : ∀ i, i < n → T i = true) : Pt (bt2 near') (bt2 row) n 12 T ev s u f ↔ VL near lists n f := by
  constructor
  · rintro ⟨p1, p2, -⟩
    refine ⟨fun i hi => ?_, fun i u hi hu hb e => ?_⟩
    · obtain ⟨a, b⟩ := p1 i hi (hT i hi)
      exact ⟨a, by rw [← hrow i hi]; exact b⟩
    · exact p2 i u hi (by omega) (hT i hi) (hT u (by omega)) (by show bt (near' i) u = true; rw [hnr i hi]; exact hb) e.symm
  · rintro ⟨p1, p2⟩
    refine ⟨fun i hi _ => ⟨(p1 i hi).1, by show bt (row i) _ = true; rw [hrow i hi]; exact (p1 i hi).2⟩, fun i j hi hj _ _ hn => ?_, fun q => absurd q hev⟩
    have hn' : bt (near i) j = true := by rw [← hnr i hi]; exact hn
    rcases Nat.lt_trichotomy i j with h | h | h
    · exact p2 j i hj h (hsym i j hi hj hn')
    · subst h; exact absurd hn' (hirr i hi)
    · exact fun e => p2 i j hi h hn' e.symm
theorem CS_lists_ok {F n ka : Nat} {b1 b2 a1 a2 a3 a4 a5 a6 : Int32} {near tail head paint pnear uses al shown : Nat → Int32} {free : Nat → Nat → Int32} (h : GR n ka near tail head) (hal : ∀ i, i < n → ∀ c, 12 ≤ c → c < 32 → bt (al i) c = false) (hF : 100 < F) : OK (m_CS_lists F (nI n) b1 b2 near a1 a2 a3 a4 a5 a6 paint pnear uses al shown free) (fun r => listsIs near al n r.1 r.2.2.2.2.2.2.2.2.2.2.1) := by
  have hn := h.1
  have hnr : ∀ i, i < n → va_cpy near pnear 0 0 n i = near i := fun i hi => sb_cpy0 hi
  have hrow : ∀ i, i < n → gF free 0 (va_cpy al (free 0) 0 0 n) 0 i = al i := fun i hi => by rw [gF_at]; exact sb_cpy0 hi
  unfold m_CS_lists
  refine OK_gM (P' := fun a => a = _) ⟨_, Pai_startLists_eq hn, rfl⟩ ?_
  rintro _ rfl
  try dsimp only
  have hPV : ∀ g, Pt (bt2 (va_cpy near pnear 0 0 n)) (bt2 (gF free 0 (va_cpy al (free 0) 0 0 n) 0)) n 12 (btT (((1 : Int32) <<< (nI n &&& 31)) - 1)) (¬ (0 : Int32) = 0) 16 (fun _ => 0) g ↔ VL near al n g := fun g => VL_Pt (GR_sym' h) (GR_irr h) hnr hrow (fun q => q rfl) (fun i hi => (mask_bt hn (by omega)).mpr hi)
  refine OK_gM (Pai_first_ok (N := n) (K := 12) (s := 16) (o := 0) (u := fun _ => 0) (by omega) (fun i j hi hj hb => ?_) (fun i hi hb => ?_) hF (fun i hi c h1 h2 => ?_) ⟨by omega, fun _ => rfl, fun q => absurd rfl q⟩) ?_
  · rw [hnr i hi] at hb
    rw [hnr j hj]
    exact GR_sym' h i j hi hj hb
  · rw [hnr i hi] at hb
    exact GR_irr h i hi hb
  · rw [hrow i hi]
    exact hal i hi c h1 h2
  · rintro ⟨q, bn, pt, us, fr⟩ hq
    try dsimp only at hq ⊢
    refine OK_gM (CS_showWhether_ok (V := VL near al n) hn ?_) ?_
    · rcases hq with ⟨h1, f, h2, h3⟩ | ⟨h1, h2⟩
      · exact Or.inl ⟨h1, f, h2, Fst_eq hPV h3⟩
      · exact Or.inr ⟨h1, fun g hg => h2 g ((hPV g).mpr hg)⟩
    · rintro ⟨q2, sh2⟩ hq2
      exact OK_some hq2
