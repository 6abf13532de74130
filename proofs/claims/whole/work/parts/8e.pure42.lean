/-! PURE, 42: the painter over arcs -/
theorem ends_0 {a b c d : Nat} (ha : a < 12) (hb : b < 12) (hc : c < 12) (hd : d < 12) : ((((1 : Int32) <<< (nI a &&& 31)) ||| ((1 : Int32) <<< (nI b &&& 31))) &&& (((1 : Int32) <<< (nI c &&& 31)) ||| ((1 : Int32) <<< (nI d &&& 31)))) = 0 ↔ ¬ (a = c ∨ a = d ∨ b = c ∨ b = d) := by
  rw [b_eq0]
  have key : ∀ i, i < 32 → bt ((((1 : Int32) <<< (nI a &&& 31)) ||| ((1 : Int32) <<< (nI b &&& 31))) &&& (((1 : Int32) <<< (nI c &&& 31)) ||| ((1 : Int32) <<< (nI d &&& 31)))) i = ((decide (i = a) || decide (i = b)) && (decide (i = c) || decide (i = d))) := fun i hi => by
    rw [b_and, b_or, b_or, b_one (by omega) hi, b_one (by omega) hi, b_one (by omega) hi, b_one (by omega) hi]
  constructor
  · intro h w
    rcases w with w | w | w | w
    · have := h a (by omega)
      rw [key a (by omega)] at this
      simp [w] at this
    · have := h a (by omega)
      rw [key a (by omega)] at this
      simp [w] at this
    · have := h b (by omega)
      rw [key b (by omega)] at this
      simp [w] at this
    · have := h b (by omega)
      rw [key b (by omega)] at this
      simp [w] at this
  · intro h i hi
    rw [key i hi]
    by_cases h1 : i = a <;> by_cases h2 : i = b <;> by_cases h3 : i = c <;> by_cases h4 : i = d <;> simp [h1, h2, h3, h4] <;> omega
theorem meetA_ends {n m : Nat} {near tail head : Nat → Int32} (h : GR n m near tail head) {i j : Nat} (hi : i < m) (hj : j < m) : ((((1 : Int32) <<< (tail i &&& 31)) ||| ((1 : Int32) <<< (head i &&& 31))) &&& (((1 : Int32) <<< (tail j &&& 31)) ||| ((1 : Int32) <<< (head j &&& 31)))) = 0 ↔ ¬ meetA tail head i j := by
  have hn := h.1
  obtain ⟨a, b, ha, hb, -, e1, e2, -, -⟩ := h.2.2.2.1 i hi
  obtain ⟨c, d, hc, hd, -, e3, e4, -, -⟩ := h.2.2.2.1 j hj
  unfold meetA
  rw [e1, e2, e3, e4, ends_0 (by omega) (by omega) (by omega) (by omega), nI_eq (by omega) (by omega), nI_eq (by omega) (by omega), nI_eq (by omega) (by omega), nI_eq (by omega) (by omega)]
def nearArcs (tail head : Nat → Int32) (m : Nat) (near' : Nat → Int32) : Prop := ∀ i, i < m → ∀ j, j < 32 → (bt (near' i) j = true ↔ j < m ∧ ¬ j = i ∧ meetA tail head i j)
theorem Pai_startArcs_ok {F n m : Nat} {a1 a2 a3 a4 a5 a6 nn b2 p : Int32} {pnear uses near tail head : Nat → Int32} {free : Nat → Nat → Int32} (h : GR n m near tail head) (hm : m ≤ 16) (hF : 100 < F) : OK (m_Pai_startArcs F a1 a2 a3 a4 a5 a6 pnear uses nn (nI m) b2 tail head free p) (fun r => ∃ near' : Nat → Int32, nearArcs tail head m near' ∧ r = (nI m, 0, 12, 16, 0, 0, near', fillA 12 0 uses, gF free 0 (fillA 16 p (free 0)))) := by
  unfold m_Pai_startArcs m_Pai_start
  have hmin : minI (nI m) 16 = nI m := by
    unfold minI
    rw [if_neg (show ¬ (16 : Int32) < nI m from nI_nlt (a := 16) (b := m) hm (by omega))]
  rw [hmin]
  refine OK_gM (P' := fun a => a = (nI m, 0, 12, 16, 0, 0, fillA 12 (0 : Int32) uses)) ⟨_, rfl, rfl⟩ ?_
  rintro _ rfl
  try dsimp only
  rw [gC_t (show inb 0 18 = true from inb_nI (i := 0) (by omega) (by omega))]
  refine OK_for m (fun i z => ∃ nr : Nat → Int32, z = (nI i, nr) ∧ ∀ i', i' < i → ∀ j, j < 32 → (bt (nr i') j = true ↔ j < m ∧ ¬ j = i' ∧ meetA tail head i' j)) ?_ ?_ F 0 _ (by omega) ⟨pnear, rfl, fun i hi => by omega⟩ (by omega)
  · rintro k1 z ⟨nr, rfl, hnr⟩
    try dsimp only
    rw [if_pos (nI_le (Nat.le_refl _) (by omega))]
    exact OK_some ⟨nr, hnr, rfl⟩
  · rintro k1 i z hi ⟨nr, rfl, hnr⟩ hk1
    try dsimp only
    rw [if_neg (nI_ge hi (by omega)), gC_t (inb_nI (by omega) (by omega)), gC_t (inb_nI (by omega) (by omega)), gB_eq, gC_t (inb_nI (by omega) (by omega)), nI_clamp (by omega)]
    refine OK_for m (fun j z => ∃ nr2 : Nat → Int32, z = (nI j, nr2) ∧ (∀ i', ¬ i' = i → nr2 i' = nr i') ∧ ∀ j', j' < 32 → (bt (nr2 i) j' = true ↔ j' < j ∧ ¬ j' = i ∧ meetA tail head i j')) ?_ ?_ F 0 _ (by omega) ⟨_, rfl, fun i' h' => upd_ne h', fun j' hj' => by rw [upd_same, b_0]; exact ⟨fun w => (by cases w), fun w => by omega⟩⟩ (by omega)
    · rintro k2 z ⟨nr2, rfl, h1, h2⟩
      try dsimp only
      rw [if_pos (nI_le (Nat.le_refl _) (by omega)), gB_eq, nI_1]
      refine hk1 _ ⟨nr2, rfl, fun i' hi' => ?_⟩
      by_cases e : i' = i
      · subst e; exact h2
      · rw [h1 i' e]; exact hnr i' (by omega)
    · rintro k2 j z hj ⟨nr2, rfl, h1, h2⟩ hk2
      try dsimp only
      rw [if_neg (nI_ge hj (by omega))]
      have same : ¬ (¬ j = i ∧ meetA tail head i j) → OK (k2 (nI (j + 1), nr2)) (fun r => ∃ near' : Nat → Int32, nearArcs tail head m near' ∧ r = (nI m, 0, 12, 16, 0, 0, near', fillA 12 0 uses, gF free 0 (fillA 16 p (free 0)))) := by
        intro hno
        refine hk2 _ ⟨nr2, rfl, h1, fun j' hj' => ?_⟩
        rw [h2 j' hj']
        constructor
        · exact fun w => ⟨by omega, w.2⟩
        · intro w
          refine ⟨?_, w.2⟩
          by_cases e : j' = j
          · subst e; exact absurd w.2 hno
          · omega
      by_cases hji : j = i
      · rw [if_pos (by rw [hji]), gB_eq, nI_1]
        exact same (fun w => w.1 hji)
      · rw [if_neg (fun w => hji (nI_inj (by omega) (by omega) w)), gC_t (inb_nI (by omega) (by omega)), gC_t (inb_nI (by omega) (by omega)), nI_clamp (by omega)]
        by_cases hme : meetA tail head i j
        · rw [if_neg (fun w => (meetA_ends h hi hj).mp w hme), gC_t (inb_nI (by omega) (by omega)), gC_t (inb_nI (by omega) (by omega)), gB_eq, nI_1]
          refine hk2 _ ⟨_, rfl, fun i' h' => by rw [upd_ne h']; exact h1 i' h', fun j' hj' => ?_⟩
          rw [upd_same, b_or, Bool.or_eq_true, h2 j' hj', b_one (by omega) hj', decide_eq_true_iff]
          constructor
          · rintro (w | rfl)
            · exact ⟨by omega, w.2⟩
            · exact ⟨by omega, hji, hme⟩
          · intro w
            by_cases e : j' = j
            · exact Or.inr e
            · exact Or.inl ⟨by omega, w.2⟩
        · rw [if_pos ((meetA_ends h hi hj).mpr hme), gB_eq, nI_1]
          exact same (fun w => hme w.2)
theorem VA_Pt {tail head near' row : Nat → Int32} {m k s : Nat} {T : Nat → Bool} {ev : Prop} {u f : Nat → Nat} (hm : m ≤ 16) (hnr : nearArcs tail head m near') (hrow : ∀ i c, i < m → c < 12 → (bt (row i) c = true ↔ c < k)) (hk : k ≤ 12) (hev : ¬ ev) (hT : ∀ i, i < m → T i = true) : Pt (bt2 near') (bt2 row) m 12 T ev s u f ↔ VA tail head m k f := by
  constructor
  · rintro ⟨p1, p2, -⟩
    refine ⟨fun i hi => ?_, fun i w hi hw hb e => ?_⟩
    · obtain ⟨a, b⟩ := p1 i hi (hT i hi)
      exact (hrow i _ hi a).mp b
    · exact p2 w i (by omega) hi (hT w (by omega)) (hT i hi) ((hnr w (by omega) i (by omega)).mpr ⟨hi, by omega, hb⟩) e
  · rintro ⟨p1, p2⟩
    refine ⟨fun i hi _ => ⟨by have := p1 i hi; omega, (hrow i _ hi (by have := p1 i hi; omega)).mpr (p1 i hi)⟩, fun i j hi hj _ _ hn => ?_, fun q => absurd q hev⟩
    obtain ⟨-, hji, hme⟩ := (hnr i hi j (by omega)).mp hn
    rcases Nat.lt_trichotomy i j with h | h | h
    · exact p2 j i hj h hme
    · exact absurd h.symm hji
    · exact fun e => p2 i j hi h (meetA_symm hme) e.symm
theorem Pai_arcs_ok {F m k : Nat} {paint near' uses tail head : Nat → Int32} {free : Nat → Nat → Int32} (hm : m ≤ 16) (hnr : nearArcs tail head m near') (hk : k ≤ 12) (hF : 100 < F) : OK (m_Pai_paintFirst F (nI m) 0 12 16 0 0 paint near' (fillA 12 0 uses) (gF free 0 (fillA 16 (((1 : Int32) <<< (nI k &&& 31)) - 1) (free 0)))) (fun r => (r.1 = 1 ∧ ∃ f : Nat → Nat, (∀ i, i < m → r.2.2.1 i = nI (f i)) ∧ Fst m (VA tail head m k) f) ∨ (r.1 = 0 ∧ ∀ g, ¬ VA tail head m k g)) := by
  have hrow : ∀ i, i < m → gF free 0 (fillA 16 (((1 : Int32) <<< (nI k &&& 31)) - 1) (free 0)) 0 i = ((1 : Int32) <<< (nI k &&& 31)) - 1 := fun i hi => by
    rw [gF_at]; unfold fillA; rw [if_pos (by omega)]
  have hPV : ∀ g, Pt (bt2 near') (bt2 (gF free 0 (fillA 16 (((1 : Int32) <<< (nI k &&& 31)) - 1) (free 0)) 0)) m 12 (btT (((1 : Int32) <<< (nI m &&& 31)) - 1)) (¬ (0 : Int32) = 0) 16 (fun _ => 0) g ↔ VA tail head m k g := fun g => VA_Pt hm hnr (fun i c hi hc => by show bt (gF free 0 _ 0 i) c = true ↔ _; rw [hrow i hi]; exact mask_bt hk (by omega)) hk (fun q => q rfl) (fun i hi => by show bt _ i = true; rw [b_full m (by omega) i (by omega)]; exact decide_eq_true hi)
  refine OK_mono (Pai_first_ok (N := m) (K := 12) (s := 16) (o := 0) (u := fun _ => 0) hm (fun i j hi hj hb => ?_) (fun i hi hb => ?_) hF (fun i hi c h1 h2 => ?_) ⟨by omega, fun _ => rfl, fun q => absurd rfl q⟩) ?_
  · obtain ⟨-, h1, h2⟩ := (hnr i hi j (by omega)).mp hb
    exact (hnr j hj i (by omega)).mpr ⟨hi, fun e => h1 e.symm, meetA_symm h2⟩
  · exact ((hnr i hi i (by omega)).mp hb).2.1 rfl
  · rw [hrow i hi]
    exact bt_f (fun w => by have := (mask_bt hk h2).mp w; omega)
  · rintro r (⟨h1, f, h2, h3⟩ | ⟨h1, h2⟩)
    · exact Or.inl ⟨h1, f, h2, Fst_eq hPV h3⟩
    · exact Or.inr ⟨h1, fun g hg => h2 g ((hPV g).mpr hg)⟩
theorem showsA_of {m : Nat} {f : Nat → Nat} {paint sh : Nat → Int32} (h : ∀ i, i < m → paint i = nI (f i)) : showsA m f (va_cpy paint (fillA 40 (-1) sh) 0 0 m) := by
  intro v hv
  by_cases q : v < m
  · rw [sb_cpy0 q, if_pos q]; exact h v q
  · rw [pk_cpy_out (Or.inr (by omega)), if_neg q]
    unfold fillA
    rw [if_pos hv]
