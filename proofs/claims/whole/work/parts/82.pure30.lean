/-! PURE, 30: the painter's steps: spread, starved, open colours, use and unuse -/
def spV (near : Nat → Int32) (row : Nat → Int32) (it c i : Nat) : Int32 := if bt (near it) i = true then (row i) &&& (((1 : Int32) <<< (nI c &&& 31)) ^^^ (-1)) else row i
theorem spV_bt {near row : Nat → Int32} {it c i d : Nat} (hc : c < 32) (hd : d < 32) : bt (spV near row it c i) d = true ↔ bt (row i) d = true ∧ (bt (near it) i = true → ¬ d = c) := by
  unfold spV
  by_cases h : bt (near it) i = true
  · rw [if_pos h, b_rm_iff _ hc hd]
    exact ⟨fun w => ⟨w.1, fun _ => w.2⟩, fun w => ⟨w.1, w.2 h⟩⟩
  · rw [if_neg h]
    exact ⟨fun w => ⟨w, fun q => absurd q h⟩, fun w => w.1⟩
theorem Pai_spread_ok {F N dep it c : Nat} {e0 p0 sh bi bn T : Int32} {near : Nat → Int32} {free : Nat → Nat → Int32} (hN : N ≤ 16) (hit : it < N) (hc : c < 32) (hdep : dep < 17) (hF : 100 < F) : OK (m_Pai_spread F (nI N) e0 p0 sh bi bn near free (nI dep) T (nI it) (nI c)) (fun r => (∀ a, ¬ a = dep + 1 → r.2 a = free a) ∧ ((r.1 = 1 ∧ ∀ i, i < N → bt T i = true → r.2 (dep + 1) i = spV near (free dep) it c i) ∨ (r.1 = 0 ∧ ∃ i, i < N ∧ bt T i = true ∧ spV near (free dep) it c i = 0))) := by
  unfold m_Pai_spread
  rw [gC_t (inb_nI (by omega) (by omega)), nI_1, gC_t (inb_nI (by omega) (by omega)), nI_clamp (by omega)]
  refine OK_for N (fun i z => ∃ fr : Nat → Nat → Int32, z = (nI i, fr) ∧ (∀ a, ¬ a = dep + 1 → fr a = free a) ∧ ∀ j, j < i → bt T j = true → fr (dep + 1) j = spV near (free dep) it c j) ?_ ?_ F 0 _ (by omega) ⟨free, rfl, fun _ _ => rfl, fun j hj => by omega⟩ (by omega)
  · rintro k1 z ⟨fr, rfl, h1, h2⟩
    try dsimp only
    rw [if_pos (nI_le (Nat.le_refl _) (by omega))]
    exact OK_some ⟨h1, Or.inl ⟨rfl, h2⟩⟩
  · rintro k1 i z hi ⟨fr, rfl, h1, h2⟩ hk1
    try dsimp only
    rw [if_neg (nI_ge hi (by omega))]
    by_cases hb : bt T i = true
    · rw [if_neg ((b_ne_t (by omega)).mpr hb), gC_t (inb_nI (by omega) (by omega)), nI_clamp (by omega), nI_clamp (by omega), nI_clamp (by omega)]
      refine OK_gBQ (fun J => ∀ s : Int32, s = spV near (free dep) it c i → OK (J s) (fun r => (∀ a, ¬ a = dep + 1 → r.2 a = free a) ∧ ((r.1 = 1 ∧ ∀ i, i < N → bt T i = true → r.2 (dep + 1) i = spV near (free dep) it c i) ∨ (r.1 = 0 ∧ ∃ i, i < N ∧ bt T i = true ∧ spV near (free dep) it c i = 0)))) ?_ ?_
      · intro s hs
        try dsimp only
        rw [gC_t (inb_nI (by omega) (by omega)), gC_t (inb_nI (by omega) (by omega)), gU_at, upd_same]
        have ho : ∀ a, ¬ a = dep + 1 → gU fr (dep + 1) i s a = free a := fun a ha => by rw [gU_ne ha]; exact h1 a ha
        by_cases h0 : s = 0
        · rw [if_pos h0]
          exact OK_some ⟨ho, Or.inr ⟨rfl, i, hi, hb, by rw [← hs]; exact h0⟩⟩
        · rw [if_neg h0, gB_eq, nI_1]
          refine hk1 _ ⟨_, rfl, ho, fun j hj htj => ?_⟩
          rw [gU_at]
          by_cases e : j = i
          · subst e; rw [upd_same]; exact hs
          · rw [upd_ne e]; exact h2 j (by omega) htj
      · intro J hJ
        try dsimp only
        by_cases hn : bt (near it) i = true
        · rw [if_neg ((b_ne_t (by omega)).mpr hn), gC_t (inb_nI (by omega) (by omega))]
          refine hJ _ ?_
          unfold spV
          rw [if_pos hn, h1 dep (by omega)]
        · rw [if_pos ((b_test _ (by omega)).mpr (by cases h : bt (near it) i with | false => rfl | true => exact absurd h hn)), gC_t (inb_nI (by omega) (by omega))]
          refine hJ _ ?_
          unfold spV
          rw [if_neg hn, h1 dep (by omega)]
    · rw [if_pos ((b_test T (by omega)).mpr (by cases h : bt T i with | false => rfl | true => exact absurd h hb)), gB_eq, nI_1]
      exact hk1 _ ⟨fr, rfl, h1, lt_s h2 (fun q => absurd q hb)⟩
theorem need_le : ∀ s, s < 17 → ∀ w, w < 40 → (nI s - nI w ≤ 0 ↔ s ≤ w) ∧ nI s - nI w + (-1) = nI s - nI (w + 1) := by decide +kernel
theorem Pai_starved_ok {F N K dep s : Nat} {e0 bi bn T : Int32} {uses : Nat → Int32} {free : Nat → Nat → Int32} {u : Nat → Nat} (hN : N ≤ 16) (hK : K ≤ 12) (hs : s < 17) (hu : ∀ c, c < K → uses c = nI (u c) ∧ u c ≤ s + 1) (hdep : dep < 18) (hF : 100 < F) : OK (m_Pai_starved F (nI N) e0 (nI K) (nI s) bi bn uses free (nI dep) T) (fun r => (r = 0 ∧ ∀ c, c < K → s ≤ u c + cP (fun i => btT T i && bt2 (free dep) i c) N) ∨ (r = 1 ∧ ∃ c, c < K ∧ u c + cP (fun i => btT T i && bt2 (free dep) i c) N < s)) := by
  unfold m_Pai_starved
  refine OK_for K (fun c z => z = nI c ∧ ∀ d, d < c → s ≤ u d + cP (fun i => btT T i && bt2 (free dep) i d) N) ?_ ?_ F 0 _ (by omega) ⟨rfl, fun d hd => by omega⟩ (by omega)
  · rintro k1 z ⟨rfl, h⟩
    try dsimp only
    rw [if_pos (nI_le (Nat.le_refl _) (by omega))]
    exact OK_some (Or.inl ⟨rfl, h⟩)
  · rintro k1 c z hc ⟨rfl, h⟩ hk1
    try dsimp only
    obtain ⟨hu1, hu2⟩ := hu c hc
    rw [if_neg (nI_ge hc (by omega)), gC_t (inb_nI (by omega) (by omega)), nI_clamp (by omega), gB_eq, hu1]
    refine OK_for N (fun i z => z = (nI s - nI (u c + cP (fun i => btT T i && bt2 (free dep) i c) i), nI i)) ?_ ?_ F 0 _ (by omega) rfl (by omega)
    · rintro k2 z rfl
      try dsimp only
      have hn := cP_n (fun i => btT T i && bt2 (free dep) i c) N
      refine OK_gB ?_
      try dsimp only
      rw [if_pos (nI_le (Nat.le_refl _) (by omega))]
      by_cases q : s ≤ u c + cP (fun i => btT T i && bt2 (free dep) i c) N
      · rw [if_pos ((need_le s hs _ (by omega)).1.mpr q), gB_eq, nI_1]
        exact hk1 _ ⟨rfl, lt_s h q⟩
      · rw [if_neg (fun w => q ((need_le s hs _ (by omega)).1.mp w))]
        exact OK_some (Or.inr ⟨rfl, c, hc, by omega⟩)
    · rintro k2 i z hi rfl hk2
      try dsimp only
      have hn := cP_n (fun i => btT T i && bt2 (free dep) i c) i
      refine OK_gB ?_
      try dsimp only
      rw [if_neg (nI_ge hi (by omega))]
      by_cases q : s ≤ u c + cP (fun i => btT T i && bt2 (free dep) i c) i
      · rw [if_pos ((need_le s hs _ (by omega)).1.mpr q), if_pos ((need_le s hs _ (by omega)).1.mpr q), gB_eq, nI_1]
        refine hk1 _ ⟨rfl, lt_s h ?_⟩
        have := cP_mono (p := fun i => btT T i && bt2 (free dep) i c) (i := i) N (by omega)
        omega
      · rw [if_neg (fun w => q ((need_le s hs _ (by omega)).1.mp w))]
        by_cases hb : bt T i = true
        · rw [if_neg ((b_ne_t (by omega)).mpr hb), gC_t (inb_nI (by omega) (by omega)), gC_t (inb_nI (by omega) (by omega)), nI_clamp (by omega), nI_clamp (by omega)]
          by_cases hb2 : bt (free dep i) c = true
          · rw [if_neg ((b_ne_t (by omega)).mpr hb2), gB_eq, gB_eq, nI_1, (need_le s hs _ (by omega)).2]
            refine hk2 _ ?_
            rw [cP_s, if_pos (by show (bt T i && bt (free dep i) c) = true; rw [hb, hb2]; rfl)]
            rfl
          · rw [if_pos ((b_test _ (by omega)).mpr (by cases h : bt (free dep i) c with | false => rfl | true => exact absurd h hb2)), gB_eq, nI_1]
            refine hk2 _ ?_
            rw [cP_s, if_neg (fun w => by
              have w' : (bt T i && bt (free dep i) c) = true := w
              rw [Bool.and_eq_true] at w'
              exact hb2 w'.2)]
            rfl
        · rw [if_pos ((b_test T (by omega)).mpr (by cases h : bt T i with | false => rfl | true => exact absurd h hb)), gB_eq, nI_1]
          refine hk2 _ ?_
          rw [cP_s, if_neg (fun w => by
            have w' : (bt T i && bt (free dep i) c) = true := w
            rw [Bool.and_eq_true] at w'
            exact hb w'.1)]
          rfl
theorem b_4095 : ∀ i, i < 32 → bt 4095 i = decide (i < 12) := by decide +kernel
/-- which colours are open -/
def opn (ev : Prop) (K s o : Nat) (u : Nat → Nat) (c : Nat) : Prop := c < K ∧ (ev → u c < s ∨ (u c = s ∧ fullN K s u < o))
theorem Pai_open_ok {F N K s o : Nat} {e0 : Int32} {sh bi bn : Int32} {uses : Nat → Int32} {u : Nat → Nat} (hK : K ≤ 12) (hK0 : e0 = 0 → K = 12) (hb : ¬ e0 = 0 → sh = nI s ∧ s < 17 ∧ bi = nI o ∧ o < 17 ∧ bn = nI (fullN K s u) ∧ ∀ c, c < K → uses c = nI (u c) ∧ u c ≤ s + 1) (hF : 100 < F) : OK (m_Pai_openColours F (nI N) e0 (nI K) sh bi bn uses) (fun r => ∀ c, c < 32 → (bt r c = true ↔ opn (¬ e0 = 0) K s o u c)) := by
  unfold m_Pai_openColours
  by_cases h0 : e0 = 0
  · rw [if_pos h0]
    refine OK_some (fun c hc => ?_)
    rw [b_4095 c hc, decide_eq_true_iff]
    unfold opn
    rw [hK0 h0]
    exact ⟨fun w => ⟨w, fun q => absurd h0 q⟩, fun w => w.1⟩
  · rw [if_neg h0]
    obtain ⟨rfl, hs, rfl, ho, rfl, hu⟩ := hb h0
    have hfn := fullN_n K s u
    refine OK_gBQ (fun J => ∀ m : Nat, m ≤ 18 → (∀ c, c < K → (u c < m ↔ (u c < s ∨ (u c = s ∧ fullN K s u < o)))) → OK (J (nI m)) (fun r => ∀ c, c < 32 → (bt r c = true ↔ opn (¬ e0 = 0) K s o u c))) ?_ ?_
    · intro m hm hmu
      try dsimp only
      refine OK_for K (fun i z => ∃ x : Int32, z = (x, nI i) ∧ ∀ c, c < 32 → (bt x c = true ↔ c < i ∧ u c < m)) ?_ ?_ F 0 _ (by omega) ⟨0, rfl, fun c hc => by rw [b_0]; exact ⟨fun w => (by cases w), fun w => by omega⟩⟩ (by omega)
      · rintro k1 z ⟨x, rfl, hx⟩
        try dsimp only
        rw [if_pos (nI_le (Nat.le_refl _) (by omega))]
        refine OK_some (fun c hc => ?_)
        rw [hx c hc]
        unfold opn
        exact ⟨fun w => ⟨w.1, fun _ => (hmu c w.1).mp w.2⟩, fun w => ⟨w.1, (hmu c w.1).mpr (w.2 h0)⟩⟩
      · rintro k1 i z hi ⟨x, rfl, hx⟩ hk1
        try dsimp only
        obtain ⟨hu1, hu2⟩ := hu i hi
        rw [if_neg (nI_ge hi (by omega)), gC_t (inb_nI (by omega) (by omega)), nI_clamp (by omega), hu1]
        by_cases q : m ≤ u i
        · rw [if_pos (nI_le q (by omega)), gB_eq, nI_1]
          refine hk1 _ ⟨x, rfl, fun c hc => ?_⟩
          rw [hx c hc]
          constructor
          · exact fun w => ⟨by omega, w.2⟩
          · intro w
            refine ⟨?_, w.2⟩
            by_cases e : c = i
            · subst e; omega
            · omega
        · rw [if_neg (nI_ge (by omega) (by omega)), gB_eq, gB_eq, nI_1]
          refine hk1 _ ⟨_, rfl, fun c hc => ?_⟩
          rw [b_or, Bool.or_eq_true, hx c hc, b_one (by omega) hc, decide_eq_true_iff]
          constructor
          · rintro (w | rfl)
            · exact ⟨by omega, w.2⟩
            · exact ⟨by omega, by omega⟩
          · intro w
            by_cases e : c = i
            · exact Or.inr e
            · exact Or.inl ⟨by omega, w.2⟩
    · intro J hJ
      try dsimp only
      by_cases q : o ≤ fullN K s u
      · rw [if_pos (nI_le q (by omega))]
        exact hJ s (by omega) (fun c _ => ⟨fun w => Or.inl w, fun w => by omega⟩)
      · rw [if_neg (nI_ge (by omega) (by omega)), nI_1]
        exact hJ (s + 1) (by omega) (fun c _ => ⟨fun w => by omega, fun w => by omega⟩)
def useB (sh bn x : Int32) : Int32 := if x + 1 ≤ sh then bn else bn + 1
theorem Pai_use_eq {F c : Nat} {it e0 p0 sh bi bn : Int32} {uses : Nat → Int32} (hc : c < 12) : m_Pai_use F it e0 p0 sh bi bn uses (nI c) = some (useB sh bn (uses c), upd uses c (uses c + 1)) := by
  unfold m_Pai_use useB
  rw [gC_t (inb_nI hc (by omega)), gC_t (inb_nI hc (by omega)), gC_t (inb_nI hc (by omega)), nI_clamp (by omega), upd_same]
  by_cases h : uses c + 1 ≤ sh
  · rw [if_pos h, if_pos h]
  · rw [if_neg h, if_neg h, gB_eq]
theorem add1_sub1 (x : Int32) : x + 1 - 1 = x := by
  rw [nI_self x, nI_1]
  exact nI_sub' (i := 1) (by omega)
theorem upd_back (f : Nat → Int32) (c : Nat) (x : Int32) : upd (upd f c x) c (f c) = f := by
  funext j
  by_cases e : j = c
  · subst e; exact upd_same _ _ _
  · rw [upd_ne e, upd_ne e]
theorem Pai_unuse_eq {F c : Nat} {it e0 p0 sh bi bn : Int32} {uses : Nat → Int32} (hc : c < 12) : m_Pai_unuse F it e0 p0 sh bi (useB sh bn (uses c)) (upd uses c (uses c + 1)) (nI c) = some (bn, uses) := by
  unfold m_Pai_unuse useB
  rw [gC_t (inb_nI hc (by omega)), nI_clamp (by omega), upd_same, gB_eq]
  by_cases h : uses c + 1 ≤ sh
  · rw [if_pos h, if_pos h]
    dsimp only
    rw [gC_t (inb_nI hc (by omega)), gC_t (inb_nI hc (by omega)), add1_sub1, upd_back]
  · rw [if_neg h, if_neg h, gB_eq]
    dsimp only
    rw [gC_t (inb_nI hc (by omega)), gC_t (inb_nI hc (by omega)), add1_sub1, add1_sub1, upd_back]
