/-! PURE, 9: greedy, a: the colours near, the least free colour -/
def usN (nv : Int32) (ti : Nat → Int32) : Nat → Int32
  | 0 => 0
  | i + 1 => if bt nv i = true ∧ ¬ ti i = -1 then usN nv ti i ||| ((1 : Int32) <<< (ti i &&& 31)) else usN nv ti i
theorem usN_t {nv : Int32} {ti : Nat → Int32} {i : Nat} (h1 : bt nv i = true) (h2 : ¬ ti i = -1) : usN nv ti (i + 1) = usN nv ti i ||| ((1 : Int32) <<< (ti i &&& 31)) := by rw [usN, if_pos ⟨h1, h2⟩]
theorem usN_f {nv : Int32} {ti : Nat → Int32} {i : Nat} (h : bt nv i = false ∨ ti i = -1) : usN nv ti (i + 1) = usN nv ti i := by
  rw [usN, if_neg]
  rintro ⟨q1, q2⟩
  rcases h with h | h
  · rw [h] at q1; cases q1
  · exact q2 h
theorem usN_M {nv : Int32} {ti : Nat → Int32} : ∀ n, (∀ v, v < n → colOK (ti v)) → M12 (usN nv ti n)
  | 0, _ => by show M12 0; unfold M12; decide
  | n + 1, h => by
    have ih := usN_M (nv := nv) n (fun v hv => h v (by omega))
    by_cases h1 : bt nv n = true ∧ ¬ ti n = -1
    · rw [usN_t h1.1 h1.2]
      rcases h n (by omega) with h2 | ⟨c, hc, h2⟩
      · exact absurd h2 h1.2
      · apply M12_of
        intro i hi1 hi2
        rw [b_or, M12_bt ih hi1 hi2, h2, b_one (by omega) hi2]
        simp; omega
    · rw [usN, if_neg h1]; exact ih
theorem Gr_coloursNear_ok {F n j : Nat} {a v : Int32} {ti near : Nat → Int32} (hn : n ≤ 12) (hj : j < n) (hF : 12 < F) : m_Gr_coloursNear F ti (nI n) a v near (nI j) = some (usN (near j) ti n) := by
  refine OK_eq ?_
  unfold m_Gr_coloursNear
  refine OK_for n (fun i z => z = (usN (near j) ti i, nI i)) ?_ ?_ F 0 _ (by omega) rfl (by omega)
  · rintro k1 z rfl
    dsimp only
    rw [if_pos (nI_le (Nat.le_refl _) (by omega))]
    exact OK_some rfl
  · rintro k1 i z hi rfl hk1
    dsimp only
    rw [if_neg (nI_ge hi (by omega)), gC_t (inb_nI (by omega) (by omega)), nI_clamp (show j < 2 ^ 31 by omega)]
    cases hb : bt (near j) i with
    | false =>
      rw [if_pos ((b_test _ (by omega)).mpr hb), gB_eq, nI_1]
      exact hk1 _ (by rw [usN_f (Or.inl hb)])
    | true =>
      rw [if_neg (fun q => by rw [(b_test _ (by omega)).mp q] at hb; cases hb), gC_t (inb_nI (by omega) (by omega)), nI_clamp (show i < 2 ^ 31 by omega)]
      by_cases h1 : ti i = -1
      · rw [if_pos h1, gB_eq, nI_1]
        exact hk1 _ (by rw [usN_f (Or.inr h1)])
      · rw [if_neg h1, gC_t (inb_nI (by omega) (by omega)), gB_eq, gB_eq, nI_1]
        exact hk1 _ (by rw [usN_t hb h1])
theorem Mo_different_ok {F n j : Nat} {t a y z c d : Int32} {ti near : Nat → Int32} (hn : n ≤ 12) (hj : j < n) (ht : ∀ v, v < n → colOK (ti v)) (hF : 12 < F) : m_Mo_different F t (nI n) a y z c d near ti (nI j) = some (nI (popN (usN (near j) ti n).toBitVec.toNat 12)) := by
  refine OK_eq ?_
  unfold m_Mo_different
  refine OK_for n (fun i z => z = (usN (near j) ti i, nI i)) ?_ ?_ F 0 _ (by omega) rfl (by omega)
  · rintro k1 z rfl
    dsimp only
    rw [if_pos (nI_le (Nat.le_refl _) (by omega)), gM_s (count_M (usN_M n ht) hF)]
    exact OK_some rfl
  · rintro k1 i z hi rfl hk1
    dsimp only
    rw [if_neg (nI_ge hi (by omega)), gC_t (inb_nI (by omega) (by omega)), nI_clamp (show j < 2 ^ 31 by omega)]
    cases hb : bt (near j) i with
    | false =>
      rw [if_neg (fun q => by rw [(bit_one _ (by omega)).mp q] at hb; cases hb), gB_eq, gB_eq, nI_1, i_or0]
      exact hk1 _ (by rw [usN_f (Or.inl hb)])
    | true =>
      rw [if_pos ((bit_one _ (by omega)).mpr hb), gC_t (inb_nI (by omega) (by omega)), nI_clamp (show i < 2 ^ 31 by omega)]
      by_cases h1 : ti i = -1
      · rw [if_pos h1, gB_eq, gB_eq, nI_1, i_or0]
        exact hk1 _ (by rw [usN_f (Or.inr h1)])
      · rw [if_neg h1, gC_t (inb_nI (by omega) (by omega)), gB_eq, gB_eq, nI_1]
        exact hk1 _ (by rw [usN_t hb h1])
def freB (k : Nat) : Nat → Bool
  | 0 => false
  | w + 1 => freB k w || (decide (bitc (((nI k ^^^ (-1)) &&& (-(nI k ^^^ (-1)))) - 1) = nI w) && (!k.testBit w && decide (k % 2 ^ w = 2 ^ w - 1)))
set_option maxRecDepth 20000 in
theorem freB_all : ∀ a, a < 64 → ∀ b, b < 64 → freB (64 * a + b) 13 = true := by decide +kernel
theorem freB_of {k : Nat} : ∀ w, freB k w = true → ∃ j, j < w ∧ bitc (((nI k ^^^ (-1)) &&& (-(nI k ^^^ (-1)))) - 1) = nI j ∧ k.testBit j = false ∧ k % 2 ^ j = 2 ^ j - 1
  | 0, h => by simp [freB] at h
  | w + 1, h => by
    unfold freB at h
    simp only [Bool.or_eq_true, Bool.and_eq_true, decide_eq_true_eq, Bool.not_eq_true'] at h
    rcases h with h | ⟨h1, h2, h3⟩
    · obtain ⟨j, hj, r⟩ := freB_of w h
      exact ⟨j, by omega, r⟩
    · exact ⟨w, by omega, h1, h2, h3⟩
/-- j is the least colour that isn't in x -/
def freeC (x : Int32) (j : Nat) : Prop := bt x j = false ∧ ∀ u, u < j → bt x u = true
theorem freeC_uniq {x : Int32} {i j : Nat} (h1 : freeC x i) (h2 : freeC x j) : i = j := by
  rcases Nat.lt_trichotomy i j with q | q | q
  · have := h2.2 i q; rw [h1.1] at this; cases this
  · exact q
  · have := h1.2 j q; rw [h2.1] at this; cases this
theorem lowestOf_free {F : Nat} {x : Int32} (hM : M12 x) : ∃ j, j ≤ 12 ∧ freeC x j ∧ m_CS_lowestOf F (x ^^^ (-1)) = some (nI j) := by
  have hk : x.toBitVec.toNat < 4096 := hM
  have e := nI_self x
  generalize x.toBitVec.toNat = k at hk e
  subst e
  have hb := freB_all (k / 64) (by omega) (k % 64) (by omega)
  rw [show 64 * (k / 64) + k % 64 = k by omega] at hb
  obtain ⟨j, hj, h1, h2, h3⟩ := freB_of 13 hb
  refine ⟨j, by omega, ⟨by rw [bt_nI k (by omega)]; exact h2, fun u hu => ?_⟩, ?_⟩
  · rw [bt_nI k (by omega)]
    have e2 : (k % 2 ^ j).testBit u = (decide (u < j) && k.testBit u) := Nat.testBit_mod_two_pow k j u
    rw [h3, Nat.testBit_two_pow_sub_one] at e2
    simp [hu] at e2
    exact e2
  · unfold m_CS_lowestOf
    rw [h1]
theorem Mo_tintNode_ok {F n j c : Nat} {t a y z e1 e2 : Int32} {ti near : Nat → Int32} (hn : n ≤ 12) (hj : j < n) (hc : c ≤ 12) (hf : freeC (usN (near j) ti n) c) (hF : 40 < F) : m_Mo_tintNode F t (nI n) a y z e1 e2 near ti (nI j) = some (upd ti j (nI c)) := by
  refine OK_eq ?_
  unfold m_Mo_tintNode
  refine OK_for n (fun i z => z = (usN (near j) ti i, nI i)) ?_ ?_ F 0 _ (by omega) rfl (by omega)
  · rintro k1 z rfl
    dsimp only
    rw [if_pos (nI_le (Nat.le_refl _) (by omega))]
    refine OK_for c (fun i z => z = nI i) ?_ ?_ F 0 _ (by omega) rfl (by omega)
    · rintro k2 z rfl
      rw [if_neg (fun q => by have h9 := hf.1; rw [(bit_one _ (by omega)).mp q] at h9; cases h9), gC_t (inb_nI (by omega) (by omega)), nI_clamp (by omega)]
      exact OK_some rfl
    · rintro k2 i z hi rfl hk2
      rw [if_pos ((bit_one _ (by omega)).mpr (hf.2 i hi)), gB_eq, nI_1]
      exact hk2 _ rfl
  · rintro k1 i z hi rfl hk1
    dsimp only
    rw [if_neg (nI_ge hi (by omega)), gC_t (inb_nI (by omega) (by omega)), nI_clamp (show j < 2 ^ 31 by omega)]
    cases hb : bt (near j) i with
    | false =>
      rw [if_neg (fun q => by rw [(bit_one _ (by omega)).mp q] at hb; cases hb), gB_eq, gB_eq, nI_1, i_or0]
      exact hk1 _ (by rw [usN_f (Or.inl hb)])
    | true =>
      rw [if_pos ((bit_one _ (by omega)).mpr hb), gC_t (inb_nI (by omega) (by omega)), nI_clamp (show i < 2 ^ 31 by omega)]
      by_cases h1 : ti i = -1
      · rw [if_pos h1, gB_eq, gB_eq, nI_1, i_or0]
        exact hk1 _ (by rw [usN_f (Or.inr h1)])
      · rw [if_neg h1, gC_t (inb_nI (by omega) (by omega)), gB_eq, gB_eq, nI_1]
        exact hk1 _ (by rw [usN_t hb h1])
theorem free_small {nv : Int32} {ti : Nat → Int32} {c : Nat} : ∀ n, (∀ v, v < n → colOK (ti v)) → freeC (usN nv ti n) c → c ≤ 12 → c ≤ bc nv n := by
  have key : ∀ n, (∀ v, v < n → colOK (ti v)) → bc (usN nv ti n) 12 ≤ bc nv n := by
    intro n
    induction n with
    | zero =>
      intro _
      show bc 0 12 ≤ 0
      have : ∀ m, bc (0 : Int32) m = 0 := by
        intro m
        induction m with
        | zero => rfl
        | succ m ih => rw [bc_s, ih, if_neg (by rw [b_0]; decide)]
      rw [this]
      omega
    | succ n ih =>
      intro h
      have ih := ih (fun v hv => h v (by omega))
      rw [bc_s nv n]
      by_cases h1 : bt nv n = true ∧ ¬ ti n = -1
      · rw [usN_t h1.1 h1.2, if_pos h1.1]
        rcases h n (by omega) with h2 | ⟨d, hd, h2⟩
        · exact absurd h2 h1.2
        · rw [h2]
          have add1 : ∀ m, m ≤ 12 → bc (usN nv ti n ||| ((1 : Int32) <<< (nI d &&& 31))) m ≤ bc (usN nv ti n) m + 1 ∧ (m ≤ d → bc (usN nv ti n ||| ((1 : Int32) <<< (nI d &&& 31))) m = bc (usN nv ti n) m) := by
            intro m
            induction m with
            | zero => intro _; exact ⟨Nat.zero_le _, fun _ => rfl⟩
            | succ m ihm =>
              intro hm
              obtain ⟨i1, i2⟩ := ihm (by omega)
              rw [bc_s, bc_s, b_or, b_one (by omega) (by omega)]
              by_cases hmd : m = d
              · have e9 := i2 (by omega)
                subst hmd
                rw [e9]
                simp
                intro q; omega
              · simp [hmd]
                constructor
                · omega
                · intro q; rw [i2 (by omega)]
          have := (add1 12 (by omega)).1
          omega
      · rw [usN, if_neg h1]
        omega
  intro n h hf hc
  have h1 := key n h
  have h2 : ∀ m, m ≤ c → bc (usN nv ti n) m = m := by
    intro m
    induction m with
    | zero => intro _; rfl
    | succ m ih => intro hm; rw [bc_s, ih (by omega), if_pos (hf.2 m (by omega))]
  have h3 : ∀ m, c ≤ m → bc (usN nv ti n) c ≤ bc (usN nv ti n) m := by
    intro m
    induction m with
    | zero => intro q; rw [show c = 0 by omega]; exact Nat.le_refl _
    | succ m ih =>
      intro q
      by_cases e : c = m + 1
      · rw [e]; exact Nat.le_refl _
      · have := ih (by omega)
        rw [bc_s]
        omega
  have := h3 12 hc
  rw [h2 c (Nat.le_refl _)] at this
  omega
