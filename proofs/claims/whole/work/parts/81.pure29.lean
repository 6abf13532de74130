/-! PURE, 29: the painter's small steps -/
theorem bc_cP (x : Int32) : ∀ n, bc x n = cP (fun i => bt x i) n := by
  intro n
  induction n with
  | zero => rfl
  | succ n ih => rw [bc_s, cP_s, ih]
theorem cP_mono {p : Nat → Bool} {i : Nat} : ∀ j, i ≤ j → cP p i ≤ cP p j := by
  intro j
  induction j with
  | zero => intro h; rw [show i = 0 by omega]; exact Nat.le_refl _
  | succ j ih =>
    intro h
    by_cases e : i = j + 1
    · rw [e]; exact Nat.le_refl _
    · have := ih (by omega)
      rw [cP_s]; omega
theorem cP_0 {p : Nat → Bool} {i : Nat} : ∀ j, i ≤ j → (∀ v, i ≤ v → v < j → p v = false) → cP p j = cP p i := by
  intro j
  induction j with
  | zero => intro h _; rw [show i = 0 by omega]
  | succ j ih =>
    intro h hp
    by_cases e : i = j + 1
    · rw [e]
    · rw [cP_s, ih (by omega) (fun v h1 h2 => hp v h1 (by omega)), if_neg (by rw [hp j (by omega) (by omega)]; decide), Nat.add_zero]
theorem cP_n (p : Nat → Bool) : ∀ n, cP p n ≤ n := by
  intro n
  induction n with
  | zero => exact Nat.le_refl _
  | succ n ih =>
    rw [cP_s]
    by_cases h : p n = true
    · rw [if_pos h]; omega
    · rw [if_neg h]; omega
theorem gU_at (M : Nat → Nat → Int32) (i j : Nat) (v : Int32) (b : Nat) : gU M i j v i b = upd (M i) j v b := by unfold gU gF; rw [if_pos rfl]
theorem gU_ne {M : Nat → Nat → Int32} {i j a : Nat} {v : Int32} (h : a ≠ i) : gU M i j v a = M a := by unfold gU gF; rw [if_neg h]
theorem b_rm (x : Int32) {v i : Nat} (hv : v < 32) (hi : i < 32) : bt (x &&& (((1 : Int32) <<< (nI v &&& 31)) ^^^ (-1))) i = (bt x i && !decide (i = v)) := by rw [b_and, b_not _ hi, b_one hv hi]
theorem b_rm_iff (x : Int32) {v i : Nat} (hv : v < 32) (hi : i < 32) : bt (x &&& (((1 : Int32) <<< (nI v &&& 31)) ^^^ (-1))) i = true ↔ bt x i = true ∧ ¬ i = v := by
  rw [b_rm x hv hi, Bool.and_eq_true]
  by_cases e : i = v
  · rw [decide_eq_true e]; exact ⟨fun w => absurd w.2 (by decide), fun w => absurd e w.2⟩
  · rw [decide_eq_false e]; exact ⟨fun w => ⟨w.1, e⟩, fun w => ⟨w.1, rfl⟩⟩
theorem b_ne_t {x : Int32} {v : Nat} (hv : v < 32) : ¬ ((x >>> (nI v &&& 31)) &&& 1) = 0 ↔ bt x v = true := by
  rw [b_test x hv]
  cases bt x v <;> simp
/-- the items: bits below N alone -/
def inN (N : Nat) (T : Int32) : Prop := ∀ i, i < 32 → bt T i = true → i < N
theorem inN_off {N : Nat} {T : Int32} (h : inN N T) {i : Nat} (hi : N ≤ i) (h32 : i < 32) : bt T i = false := by
  cases hb : bt T i with
  | false => rfl
  | true => have := h i h32 hb; omega
theorem inN_rm {N v : Nat} {T : Int32} (h : inN N T) (hv : v < 32) : inN N (T &&& (((1 : Int32) <<< (nI v &&& 31)) ^^^ (-1))) := fun i hi hb => h i hi ((b_rm_iff T hv hi).mp hb).1
theorem wo_rm {N v : Nat} {T : Int32} (hN : N ≤ 16) (hv : v < N) : wo N (fun i => bt T i) (fun i => bt (T &&& (((1 : Int32) <<< (nI v &&& 31)) ^^^ (-1))) i) v := fun i hi => b_rm_iff T (by omega) (by omega)
abbrev bt2 (M : Nat → Int32) : Nat → Nat → Bool := fun i c => bt (M i) c
abbrev btT (T : Int32) : Nat → Bool := fun i => bt T i
theorem Pai_easy_ok {F N dep s : Nat} {e0 p0 sh bi bn T : Int32} {near : Nat → Int32} {free : Nat → Nat → Int32} {ev : Prop} {u : Nat → Nat} (hN : N ≤ 16) (hev : ¬ ev) (hsym : ∀ i j, i < N → j < N → bt (near i) j = true → bt (near j) i = true) (hirr : ∀ i, i < N → ¬ bt (near i) i = true) (hT : inN N T) (hdep : dep < 18) (hfr : ∀ i, i < N → bt T i = true → ∀ c, 12 ≤ c → c < 32 → bt (free dep i) c = false) (hF : 100 < F) : OK (m_Pai_withoutEasy F (nI N) e0 p0 sh bi bn near free (nI dep) T) (fun r => (∀ i, i < 32 → bt r i = true → bt T i = true) ∧ ((∃ g, Pt (bt2 near) (bt2 (free dep)) N 12 (btT r) ev s u g) ↔ ∃ g, Pt (bt2 near) (bt2 (free dep)) N 12 (btT T) ev s u g)) := by
  have st0 : ∃ P : Int32 → Prop, P = (fun r => (∀ i, i < 32 → bt r i = true → bt T i = true) ∧ ((∃ g, Pt (bt2 near) (bt2 (free dep)) N 12 (btT r) ev s u g) ↔ ∃ g, Pt (bt2 near) (bt2 (free dep)) N 12 (btT T) ev s u g)) := ⟨_, rfl⟩
  obtain ⟨P, hP⟩ := st0
  rw [← hP]
  have h0 : P T := by rw [hP]; exact ⟨fun i _ h => h, Iff.rfl⟩
  have hrm : ∀ (x : Int32) (i : Nat), i < N → P x → bt x i = true → bc ((near i) &&& x) 16 < bc (free dep i) 16 → P (x &&& (((1 : Int32) <<< (nI i &&& 31)) ^^^ (-1))) := by
    intro x i hi hx hb hl
    rw [hP] at hx ⊢
    refine ⟨fun j hj hbj => hx.1 j hj ((b_rm_iff x (by omega) hj).mp hbj).1, ?_⟩
    rw [← hx.2]
    refine (Pt_easy hev hsym hirr hi hb (wo_rm hN hi) ?_).symm
    have e1 : bc (free dep i) 16 = cP (bt2 (free dep) i) 12 := by
      rw [bc_cP]
      exact cP_0 16 (by omega) (fun v h1 h2 => hfr i hi (hx.1 i (by omega) hb) v h1 (by omega))
    have e2 : bc ((near i) &&& x) 16 = cP (fun j => bt2 near i j && btT x j) N := by
      rw [bc_cP, cP_0 (i := N) 16 hN (fun v h1 h2 => ?_)]
      · exact cP_eq N (fun j _ => b_and _ _ _)
      · rw [b_and]
        have : bt x v = false := by
          cases hb2 : bt x v with
          | false => rfl
          | true => have := hT v (by omega) (hx.1 v (by omega) hb2); omega
        rw [this, Bool.and_false]
    rw [e1, e2] at hl
    exact hl
  unfold m_Pai_withoutEasy
  refine OK_for 16 (fun r z => ∃ x b : Int32, z = (x, b, nI r) ∧ P x) ?_ ?_ F 0 _ (by omega) ⟨T, 1, rfl, h0⟩ (by omega)
  · rintro k1 z ⟨x, b, rfl, hx⟩
    try dsimp only
    rw [if_pos (show (16 : Int32) ≤ nI 16 from nI_le (Nat.le_refl _) (by omega))]
    exact OK_some hx
  · rintro k1 r z hr ⟨x, b, rfl, hx⟩ hk1
    try dsimp only
    rw [if_neg (show ¬ (16 : Int32) ≤ nI r from nI_ge (a := r) (b := 16) hr (by omega))]
    by_cases hb : b = 0
    · rw [if_pos hb]; exact OK_some hx
    · rw [if_neg hb]
      refine OK_for N (fun i z => ∃ x b : Int32, z = (x, b, nI i) ∧ P x) ?_ ?_ F 0 _ (by omega) ⟨x, 0, rfl, hx⟩ (by omega)
      · rintro k2 z ⟨x, b, rfl, hx⟩
        try dsimp only
        rw [if_pos (nI_le (Nat.le_refl _) (by omega)), gB_eq, nI_1]
        exact hk1 _ ⟨x, b, rfl, hx⟩
      · rintro k2 i z hi ⟨x, b, rfl, hx⟩ hk2
        try dsimp only
        rw [if_neg (nI_ge hi (by omega))]
        by_cases hbx : bt x i = true
        · rw [if_neg ((b_ne_t (by omega)).mpr hbx), gC_t (inb_nI hdep (by omega)), gC_t (inb_nI (by omega) (by omega)), gC_t (inb_nI (by omega) (by omega)), nI_clamp (by omega), nI_clamp (by omega)]
          have hx' := hx
          rw [hP] at hx'
          rw [bitc_b16 (fun v h1 h2 => hfr i hi (hx'.1 i (by omega) hbx) v (by omega) h2), bitc_b16 (x := (near i) &&& x) (fun v h1 h2 => by
            rw [b_and]
            have : bt x v = false := by
              cases hb2 : bt x v with
              | false => rfl
              | true => have := hT v (by omega) (hx'.1 v (by omega) hb2); omega
            rw [this, Bool.and_false])]
          have l1 := bc_le (free dep i) 16
          have l2 := bc_le ((near i) &&& x) 16
          by_cases hl : bc (free dep i) 16 ≤ bc ((near i) &&& x) 16
          · rw [if_pos (nI_le hl (by omega)), gB_eq, nI_1]
            exact hk2 _ ⟨x, b, rfl, hx⟩
          · rw [if_neg (nI_ge (by omega) (by omega)), gB_eq, gB_eq, nI_1]
            exact hk2 _ ⟨_, 1, rfl, hrm x i hi hx hbx (by omega)⟩
        · rw [if_pos ((b_test x (by omega)).mpr (by cases h : bt x i with | false => rfl | true => exact absurd h hbx)), gB_eq, nI_1]
          exact hk2 _ ⟨x, b, rfl, hx⟩
theorem rank_small : ∀ a, a < 17 → ∀ b, b < 17 → ¬ (2147483647 : Int32) ≤ nI a * 17 - nI b := by decide +kernel
theorem Pai_tightest_ok {F N dep : Nat} {e0 p0 sh bi bn T op : Int32} {near : Nat → Int32} {free : Nat → Nat → Int32} (hN : N ≤ 16) (hT : inN N T) (hne : ¬ T = 0) (hop : ∀ c, 12 ≤ c → c < 32 → bt op c = false) (hdep : dep < 18) (hF : 100 < F) : OK (m_Pai_tightest F (nI N) e0 p0 sh bi bn near free (nI dep) T op) (fun r => ∃ b, b < N ∧ r = nI b ∧ bt T b = true) := by
  unfold m_Pai_tightest
  refine OK_for N (fun i z => (∃ x4 : Int32, z = (x4, 2147483647, nI i) ∧ ∀ j, j < i → bt T j = false) ∨ (∃ (b : Nat) (x5 : Int32), z = (nI b, x5, nI i) ∧ b < N ∧ bt T b = true)) ?_ ?_ F 0 _ (by omega) (Or.inl ⟨0, rfl, fun j hj => by omega⟩) (by omega)
  · rintro k1 z (⟨x4, rfl, h⟩ | ⟨b, x5, rfl, h1, h2⟩)
    · exact absurd ((b_eq0 T).mpr (fun i hi => by
        by_cases q : i < N
        · exact h i q
        · exact inN_off hT (by omega) hi)) hne
    · dsimp only
      rw [if_pos (nI_le (Nat.le_refl _) (by omega))]
      exact OK_some ⟨b, h1, rfl, h2⟩
  · intro k1 i z hi hz hk1
    obtain ⟨x4, x5, rfl, h⟩ : ∃ x4 x5 : Int32, z = (x4, x5, nI i) ∧ ((x5 = 2147483647 ∧ ∀ j, j < i → bt T j = false) ∨ (∃ b : Nat, x4 = nI b ∧ b < N ∧ bt T b = true)) := by
      rcases hz with ⟨x4, rfl, h⟩ | ⟨b, x5, rfl, h1, h2⟩
      · exact ⟨x4, _, rfl, Or.inl ⟨rfl, h⟩⟩
      · exact ⟨_, x5, rfl, Or.inr ⟨b, rfl, h1, h2⟩⟩
    try dsimp only
    rw [if_neg (nI_ge hi (by omega))]
    by_cases hb : bt T i = true
    · rw [if_neg ((b_ne_t (by omega)).mpr hb), gC_t (inb_nI hdep (by omega)), gC_t (inb_nI (by omega) (by omega)), gC_t (inb_nI (by omega) (by omega)), nI_clamp (by omega), nI_clamp (by omega), gB_eq]
      rw [bitc_b16 (x := (free dep i) &&& op) (fun v h1 h2 => by rw [b_and, hop v (by omega) h2, Bool.and_false]), bitc_b16 (x := (near i) &&& T) (fun v h1 h2 => by rw [b_and, inN_off hT (by omega) h2, Bool.and_false])]
      have l1 := bc_le ((free dep i) &&& op) 16
      have l2 := bc_le ((near i) &&& T) 16
      by_cases hl : x5 ≤ nI (bc ((free dep i) &&& op) 16) * 17 - nI (bc ((near i) &&& T) 16)
      · rw [if_pos hl, gB_eq, nI_1]
        rcases h with ⟨rfl, h⟩ | ⟨b, rfl, h1, h2⟩
        · exact absurd hl (rank_small _ (by omega) _ (by omega))
        · exact hk1 _ (Or.inr ⟨b, x5, rfl, h1, h2⟩)
      · rw [if_neg hl, gB_eq, nI_1]
        exact hk1 _ (Or.inr ⟨i, _, rfl, hi, hb⟩)
    · have hb' : bt T i = false := by cases h : bt T i with | false => rfl | true => exact absurd h hb
      rw [if_pos ((b_test T (by omega)).mpr hb'), gB_eq, nI_1]
      rcases h with ⟨rfl, h⟩ | ⟨b, rfl, h1, h2⟩
      · exact hk1 _ (Or.inl ⟨x4, rfl, fun j hj => by
          by_cases e : j = i
          · rw [e]; exact hb'
          · exact h j (by omega)⟩)
      · exact hk1 _ (Or.inr ⟨b, x5, rfl, h1, h2⟩)
theorem b_xt (x : Int32) {e c : Nat} (he : e < 32) (hc : c < 32) : (((x >>> (nI e &&& 31)) ^^^ (x >>> (nI c &&& 31))) &&& 1) = 0 ↔ bt x e = bt x c := by
  rw [b_eq0]
  constructor
  · intro h
    have h0 := h 0 (by omega)
    rw [b_and, b_xor, b_sshr e he x (by omega), b_sshr c hc x (by omega), b_1 0 (by omega)] at h0
    simp [he, hc] at h0
    exact h0
  · intro h i hi
    rw [b_and, b_1 i hi]
    by_cases h0 : i = 0
    · subst h0
      rw [b_xor, b_sshr e he x (by omega), b_sshr c hc x (by omega)]
      simp [he, hc, h]
    · simp [h0]
theorem Pai_alike_ok {F N dep e c : Nat} {e0 p0 sh bi bn T : Int32} {free : Nat → Nat → Int32} (hN : N ≤ 16) (he : e < 32) (hc : c < 32) (hdep : dep < 18) (hF : 100 < F) : OK (m_Pai_freeAlike F (nI N) e0 p0 sh bi bn free (nI dep) T (nI e) (nI c)) (fun r => r = 0 ∨ (r = 1 ∧ ∀ i, i < N → bt T i = true → bt (free dep i) e = bt (free dep i) c)) := by
  unfold m_Pai_freeAlike
  refine OK_for N (fun i z => z = nI i ∧ ∀ j, j < i → bt T j = true → bt (free dep j) e = bt (free dep j) c) ?_ ?_ F 0 _ (by omega) ⟨rfl, fun j hj => by omega⟩ (by omega)
  · rintro k1 z ⟨rfl, h⟩
    try dsimp only
    rw [if_pos (nI_le (Nat.le_refl _) (by omega))]
    exact OK_some (Or.inr ⟨rfl, h⟩)
  · rintro k1 i z hi ⟨rfl, h⟩ hk1
    try dsimp only
    rw [if_neg (nI_ge hi (by omega))]
    by_cases hb : bt T i = true
    · rw [if_neg ((b_ne_t (by omega)).mpr hb), gC_t (inb_nI hdep (by omega)), gC_t (inb_nI (by omega) (by omega)), gC_t (inb_nI hdep (by omega)), gC_t (inb_nI (by omega) (by omega)), nI_clamp (by omega), nI_clamp (by omega)]
      by_cases q : bt (free dep i) e = bt (free dep i) c
      · rw [if_pos ((b_xt _ he hc).mpr q), gB_eq, nI_1]
        exact hk1 _ ⟨rfl, lt_s h (fun _ => q)⟩
      · rw [if_neg (fun w => q ((b_xt _ he hc).mp w))]
        exact OK_some (Or.inl rfl)
    · rw [if_pos ((b_test T (by omega)).mpr (by cases h : bt T i with | false => rfl | true => exact absurd h hb)), gB_eq, nI_1]
      exact hk1 _ ⟨rfl, lt_s h (fun q => absurd q hb)⟩
theorem Pai_like_ok {F N dep c : Nat} {e0 p0 sh bi bn T ch : Int32} {uses : Nat → Int32} {free : Nat → Nat → Int32} (hN : N ≤ 16) (hc : c < 12) (hdep : dep < 18) (hF : 100 < F) : OK (m_Pai_likeEarlier F (nI N) e0 p0 sh bi bn uses free (nI dep) T ch (nI c)) (fun r => r = 0 ∨ (r = 1 ∧ ∃ e, e < c ∧ bt ch e = true ∧ (¬ e0 = 0 → uses e = uses c) ∧ ∀ i, i < N → bt T i = true → bt (free dep i) e = bt (free dep i) c)) := by
  unfold m_Pai_likeEarlier
  refine OK_for c (fun i z => z = nI i) ?_ ?_ F 0 _ (by omega) rfl (by omega)
  · rintro k1 z rfl
    try dsimp only
    rw [if_pos (nI_le (Nat.le_refl _) (by omega))]
    exact OK_some (Or.inl rfl)
  · rintro k1 e z he rfl hk1
    try dsimp only
    rw [if_neg (nI_ge he (by omega))]
    by_cases hb : bt ch e = true
    · rw [if_neg ((b_ne_t (by omega)).mpr hb), gB_eq]
      have go : (¬ e0 = 0 → uses e = uses c) → OK (gM (m_Pai_freeAlike F (nI N) e0 p0 sh bi bn free (nI dep) T (nI e) (nI c)) (fun q_5 =>
        if q_5 = 0 then (
          gB (nI e + 1) (fun x5_10 =>
          k1 x5_10)
        ) else (
          some 1
        ))) (fun r => r = 0 ∨ (r = 1 ∧ ∃ e, e < c ∧ bt ch e = true ∧ (¬ e0 = 0 → uses e = uses c) ∧ ∀ i, i < N → bt T i = true → bt (free dep i) e = bt (free dep i) c)) := by
        intro hu
        refine OK_gM (Pai_alike_ok hN (by omega) (by omega) hdep hF) ?_
        rintro q (rfl | ⟨rfl, hq⟩)
        · rw [if_pos rfl, gB_eq, nI_1]
          exact hk1 _ rfl
        · rw [if_neg (show ¬ (1 : Int32) = 0 by decide)]
          exact OK_some (Or.inr ⟨rfl, e, he, hb, hu, hq⟩)
      by_cases h0 : e0 = 0
      · rw [if_pos h0]
        exact go (fun q => absurd h0 q)
      · rw [if_neg h0, gC_t (inb_nI (by omega) (by omega)), gC_t (inb_nI (by omega) (by omega)), nI_clamp (by omega), nI_clamp (by omega)]
        by_cases hu : uses e = uses c
        · rw [if_pos hu]
          exact go (fun _ => hu)
        · rw [if_neg hu, gB_eq, nI_1]
          exact hk1 _ rfl
    · rw [if_pos ((b_test ch (by omega)).mpr (by cases h : bt ch e with | false => rfl | true => exact absurd h hb)), gB_eq, nI_1]
      exact hk1 _ rfl
