/-! PURE, 10: greedy, b: which node is next -/
/-- v is the first below i of those with P that have the highest rank -/
def bestP (P : Nat → Prop) (rk : Nat → Nat) (i v : Nat) : Prop := v < i ∧ P v ∧ ∀ u, u < i → P u → rk u ≤ rk v ∧ (u < v → rk u < rk v)
theorem bestP_uniq {P : Nat → Prop} {rk : Nat → Nat} {i v w : Nat} (h1 : bestP P rk i v) (h2 : bestP P rk i w) : v = w := by
  obtain ⟨a1, a2, a3⟩ := h1
  obtain ⟨b1, b2, b3⟩ := h2
  have q1 := a3 w b1 b2
  have q2 := b3 v a1 a2
  rcases Nat.lt_trichotomy v w with q | q | q
  · have := q2.2 q; omega
  · exact q
  · have := q1.2 q; omega
theorem bestP_skip {P : Nat → Prop} {rk : Nat → Nat} {i v : Nat} (h : bestP P rk i v) (hn : P i → rk i ≤ rk v) : bestP P rk (i + 1) v := by
  obtain ⟨a1, a2, a3⟩ := h
  refine ⟨by omega, a2, lt_s a3 (fun hp => ⟨hn hp, fun q => by omega⟩)⟩
theorem bestP_new {P : Nat → Prop} {rk : Nat → Nat} {i v : Nat} (h : bestP P rk i v) (hp : P i) (hn : rk v < rk i) : bestP P rk (i + 1) i := by
  obtain ⟨a1, a2, a3⟩ := h
  refine ⟨by omega, hp, lt_s (fun u hu hq => ?_) (fun _ => ⟨Nat.le_refl _, fun q => by omega⟩)⟩
  have := (a3 u hu hq).1
  exact ⟨by omega, fun _ => by omega⟩
theorem bestP_first {P : Nat → Prop} {rk : Nat → Nat} {i : Nat} (h : ∀ u, u < i → ¬ P u) (hp : P i) : bestP P rk (i + 1) i :=
  ⟨by omega, hp, lt_s (fun u hu hq => absurd hq (h u hu)) (fun _ => ⟨Nat.le_refl _, fun q => by omega⟩)⟩
def rk1 (near : Nat → Int32) (v : Nat) : Nat := popN (near v).toBitVec.toNat 12
def rk3 (n : Nat) (near ti : Nat → Int32) (v : Nat) : Nat := popN (near v).toBitVec.toNat 12 + popN (usN (near v) ti n).toBitVec.toNat 12 * 12
theorem rk1_le (near : Nat → Int32) (v : Nat) : rk1 near v ≤ 12 := popN_le _ 12
theorem rk3_le (n : Nat) (near ti : Nat → Int32) (v : Nat) : rk3 n near ti v ≤ 156 := by
  have h1 := popN_le (near v).toBitVec.toNat 12
  have h2 := popN_le (usN (near v) ti n).toBitVec.toNat 12
  unfold rk3
  omega
theorem Gr_nextByRank_ok {F n k : Nat} {a v fl : Int32} {ti near tail head : Nat → Int32} (h : GR n k near tail head) (ht : ∀ v, v < n → colOK (ti v)) (hex : ∃ u, u < n ∧ ti u = -1) (hF : 12 < F) : OK (m_Gr_nextByRank F ti (nI n) a v near fl) (fun r => ∃ b, r = nI b ∧ bestP (fun u => ti u = -1) (if fl = 0 then rk1 near else rk3 n near ti) n b) := by
  have hn := h.1
  unfold m_Gr_nextByRank
  generalize hrk : (if fl = 0 then rk1 near else rk3 n near ti) = rk
  have hrl : ∀ v, rk v ≤ 156 := by
    intro v
    rw [← hrk]
    by_cases h0 : fl = 0
    · rw [if_pos h0]; have := rk1_le near v; omega
    · rw [if_neg h0]; exact rk3_le n near ti v
  refine OK_for n (fun i z => (z = (0, -1, nI i) ∧ ∀ u, u < i → ¬ ti u = -1) ∨ ∃ b, z = (nI b, nI (rk b), nI i) ∧ bestP (fun u => ti u = -1) rk i b) ?_ ?_ F 0 _ (by omega) (Or.inl ⟨rfl, fun u hu => by omega⟩) (by omega)
  · rintro k1 z (⟨rfl, hq⟩ | ⟨b, rfl, hb⟩)
    · obtain ⟨u, hu, hu2⟩ := hex
      exact absurd hu2 (hq u hu)
    · dsimp only
      rw [if_pos (nI_le (Nat.le_refl _) (by omega))]
      exact OK_some ⟨b, rfl, hb⟩
  · intro k1 i z hi hz hk1
    have body : ∀ (x3 x4 : Int32), (x3 = 0 ∧ x4 = -1 ∧ ∀ u, u < i → ¬ ti u = -1) ∨ (∃ b, x3 = nI b ∧ x4 = nI (rk b) ∧ bestP (fun u => ti u = -1) rk i b) → ti i = -1 → OK (if nI (rk i) ≤ x4 then gB (nI i + 1) (fun x5_12 => k1 (x3, x4, x5_12)) else gB (nI i + 1) (fun x5_13 => k1 (nI i, nI (rk i), x5_13))) (fun r => ∃ b, r = nI b ∧ bestP (fun u => ti u = -1) rk n b) := by
      rintro x3 x4 (⟨rfl, rfl, hq⟩ | ⟨b, rfl, rfl, hb⟩) hti
      · rw [if_neg (fun q => by
          have e := Int32.le_iff_toInt_le.mp q
          rw [nI_toInt (by have := hrl i; omega)] at e
          have e3 : (-1 : Int32).toInt = -1 := by decide
          omega), gB_eq, nI_1]
        exact hk1 _ (Or.inr ⟨i, rfl, bestP_first hq hti⟩)
      · have r1 := hrl i
        have r2 := hrl b
        by_cases hle : rk i ≤ rk b
        · rw [if_pos (nI_le hle (by omega)), gB_eq, nI_1]
          exact hk1 _ (Or.inr ⟨b, rfl, bestP_skip hb (fun _ => hle)⟩)
        · rw [if_neg (nI_ge (by omega) (by omega)), gB_eq, nI_1]
          exact hk1 _ (Or.inr ⟨i, rfl, bestP_new hb hti (by omega)⟩)
    obtain ⟨x3, x4, rfl, hx⟩ : ∃ x3 x4, z = (x3, x4, nI i) ∧ ((x3 = 0 ∧ x4 = -1 ∧ ∀ u, u < i → ¬ ti u = -1) ∨ (∃ b, x3 = nI b ∧ x4 = nI (rk b) ∧ bestP (fun u => ti u = -1) rk i b)) := by
      rcases hz with ⟨rfl, hq⟩ | ⟨b, rfl, hb⟩
      · exact ⟨_, _, rfl, Or.inl ⟨rfl, rfl, hq⟩⟩
      · exact ⟨_, _, rfl, Or.inr ⟨b, rfl, rfl, hb⟩⟩
    dsimp only
    rw [if_neg (nI_ge hi (by omega)), gC_t (inb_nI (by omega) (by omega)), nI_clamp (by omega)]
    by_cases hti : ti i = -1
    · rw [if_pos hti, gC_t (inb_nI (by omega) (by omega)), gB_eq, gB_eq, bitc_M (GR_M12 h (by omega))]
      by_cases h0 : fl = 0
      · rw [if_pos h0]
        rw [if_pos h0] at hrk
        have := body x3 x4 hx hti
        rw [← hrk] at this ⊢
        exact this
      · rw [if_neg h0, gM_s (Gr_coloursNear_ok hn hi hF), gB_eq, bitc_M (usN_M n ht)]
        rw [if_neg h0] at hrk
        have e12 : nI (popN (near i).toBitVec.toNat 12) + nI (popN (usN (near i) ti n).toBitVec.toNat 12) * 12 = nI (rk i) := by
          show nI _ + nI _ * nI 12 = _
          rw [pk_mul, nI_add, ← hrk]
          rfl
        rw [e12]
        exact body x3 x4 hx hti
    · rw [if_neg hti, gB_eq, nI_1]
      rcases hx with ⟨rfl, rfl, hq⟩ | ⟨b, rfl, rfl, hb⟩
      · exact hk1 _ (Or.inl ⟨rfl, lt_s hq hti⟩)
      · exact hk1 _ (Or.inr ⟨b, rfl, bestP_skip hb (fun q => absurd q hti)⟩)
theorem nm1 {b : Nat} (hb : b < 2 ^ 31) : ¬ nI b = -1 := fun q => by
  have h9 : nI b < 0 := by rw [q]; decide
  exact nI_pos hb h9
theorem popN_bc (x : Int32) : ∀ w, w ≤ 32 → popN x.toBitVec.toNat w = bc x w
  | 0, _ => rfl
  | w + 1, hw => by
    rw [bc_s, popN, popN_bc x w (by omega)]
    congr 1
    have e : bt x w = x.toBitVec.toNat.testBit w := by
      have e2 := bt_nI x.toBitVec.toNat (i := w) (by omega)
      rw [← nI_self x] at e2
      exact e2
    rw [e, Nat.testBit_eq_decide_div_mod_eq]
    by_cases h : x.toBitVec.toNat / 2 ^ w % 2 = 1
    · simp [h]
    · simp [h]; omega
theorem bc_lt {x : Int32} {v : Nat} (hv : bt x v = false) : ∀ n, v < n → bc x n < n
  | 0, h => by omega
  | n + 1, h => by
    rw [bc_s]
    by_cases hvn : v = n
    · subst hvn
      rw [if_neg (by rw [hv]; decide)]
      have := bc_le x v
      omega
    · have := bc_lt hv n (by omega)
      by_cases hb : bt x n = true
      · rw [if_pos hb]; omega
      · rw [if_neg hb]; omega
theorem deg_lt {n k : Nat} {near tail head : Nat → Int32} (h : GR n k near tail head) : ∀ x, x < n → popN (near x).toBitVec.toNat 12 < 12 := by
  intro x hx
  have hn := h.1
  rw [popN_bc _ 12 (by omega)]
  apply bc_lt (v := x)
  · cases hb : bt (near x) x with
    | false => rfl
    | true => exact absurd rfl (h.2.2.1 x x (by omega) (by omega) hb).2.2.1
  · omega
theorem Mo_nextByColours_ok {F n k : Nat} {t a y z c d : Int32} {ti near tail head near2 : Nat → Int32} (h : GR n k near tail head) (hnr : ∀ v, v < n → near2 v = near v) (ht : ∀ v, v < n → colOK (ti v)) (hex : ∃ u, u < n ∧ ti u = -1) (hF : 12 < F) : OK (m_Mo_nextByColours F t (nI n) a y z c d near2 ti) (fun r => ∃ b, r = nI b ∧ bestP (fun u => ti u = -1) (rk3 n near ti) n b) := by
  have hn := h.1
  unfold m_Mo_nextByColours
  refine OK_for n (fun i z => (z = (-1, nI i) ∧ ∀ u, u < i → ¬ ti u = -1) ∨ ∃ b, z = (nI b, nI i) ∧ bestP (fun u => ti u = -1) (rk3 n near ti) i b) ?_ ?_ F 0 _ (by omega) (Or.inl ⟨rfl, fun u hu => by omega⟩) (by omega)
  · rintro k1 z (⟨rfl, hq⟩ | ⟨b, rfl, hb⟩)
    · obtain ⟨u, hu, hu2⟩ := hex
      exact absurd hu2 (hq u hu)
    · dsimp only
      rw [if_pos (nI_le (Nat.le_refl _) (by omega))]
      exact OK_some ⟨b, rfl, hb⟩
  · rintro k1 i z hi (⟨rfl, hq⟩ | ⟨b, rfl, hb⟩) hk1
    · dsimp only
      rw [if_neg (nI_ge hi (by omega)), gC_t (inb_nI (by omega) (by omega)), nI_clamp (by omega)]
      by_cases hti : ti i = -1
      · rw [if_pos hti, gB_eq, if_pos rfl]
        dsimp only
        rw [gB_eq, if_pos rfl]
        dsimp only
        rw [gB_eq, if_pos (by decide), gB_eq, nI_1]
        exact hk1 _ (Or.inr ⟨i, rfl, bestP_first hq hti⟩)
      · rw [if_neg hti, gB_eq, nI_1]
        exact hk1 _ (Or.inl ⟨rfl, lt_s hq hti⟩)
    · have hbi := hb.1
      dsimp only
      rw [if_neg (nI_ge hi (by omega)), gC_t (inb_nI (by omega) (by omega)), nI_clamp (show i < 2 ^ 31 by omega)]
      by_cases hti : ti i = -1
      · rw [if_pos hti, gB_eq, if_neg (nm1 (by omega)), gM_s (Mo_different_ok hn hi ht hF), gM_s (Mo_different_ok hn (by omega) ht hF), hnr i hi, hnr b (by omega)]
        dsimp only
        rw [gB_eq, if_neg (nm1 (by omega)), gC_t (inb_nI (by omega) (by omega)), gM_s (count_M (GR_M12 h (by omega)) hF), gC_t (inb_nI (by omega) (by omega)), nI_clamp (show b < 2 ^ 31 by omega), gM_s (count_M (by rw [hnr b (by omega)]; exact GR_M12 h (by omega)) hF), hnr b (by omega)]
        dsimp only
        rw [gB_eq]
        have u1 := popN_le (usN (near i) ti n).toBitVec.toNat 12
        have u2 := popN_le (usN (near b) ti n).toBitVec.toNat 12
        have v1 := popN_le (near i).toBitVec.toNat 12
        have v2 := popN_le (near b).toBitVec.toNat 12
        have w1 : ∀ x, x < n → popN (near x).toBitVec.toNat 12 ≤ 12 := fun x _ => popN_le _ 12
        have sub_lt : ∀ p q : Nat, p ≤ 12 → q ≤ 12 → ((0 : Int32) < nI p - nI q ↔ q < p) := by
          intro p q hp hq
          rw [Int32.lt_iff_toInt_lt, pk_sub_toInt (by omega) (by omega)]
          have e4 : (0 : Int32).toInt = 0 := by decide
          omega
        have sub_le : ∀ p q : Nat, p ≤ 12 → q ≤ 12 → (nI p - nI q ≤ (0 : Int32) ↔ p ≤ q) := by
          intro p q hp hq
          rw [Int32.le_iff_toInt_le, pk_sub_toInt (by omega) (by omega)]
          have e4 : (0 : Int32).toInt = 0 := by decide
          omega
        have sub_eq : ∀ p q : Nat, p ≤ 12 → q ≤ 12 → (nI p - nI q = (0 : Int32) ↔ p = q) := by
          intro p q hp hq
          rw [← Int32.toInt_inj, pk_sub_toInt (by omega) (by omega)]
          have e4 : (0 : Int32).toInt = 0 := by decide
          omega
        have hdeg : ∀ x, x < n → popN (near x).toBitVec.toNat 12 < 12 := deg_lt h
        have d1 := hdeg i hi
        have d2 := hdeg b (by omega)
        have yes : rk3 n near ti b < rk3 n near ti i → OK (k1 (nI i, nI (i + 1))) (fun r => ∃ b, r = nI b ∧ bestP (fun u => ti u = -1) (rk3 n near ti) n b) := fun q => hk1 _ (Or.inr ⟨i, rfl, bestP_new hb hti q⟩)
        have no : rk3 n near ti i ≤ rk3 n near ti b → OK (k1 (nI b, nI (i + 1))) (fun r => ∃ b, r = nI b ∧ bestP (fun u => ti u = -1) (rk3 n near ti) n b) := fun q => hk1 _ (Or.inr ⟨b, rfl, bestP_skip hb (fun _ => q)⟩)
        unfold rk3 at yes no
        by_cases c1 : popN (usN (near b) ti n).toBitVec.toNat 12 < popN (usN (near i) ti n).toBitVec.toNat 12
        · rw [if_pos ((sub_lt _ _ u1 u2).mpr c1), gB_eq, nI_1]
          exact yes (by omega)
        · rw [if_neg (fun q => c1 ((sub_lt _ _ u1 u2).mp q))]
          by_cases c2 : popN (usN (near i) ti n).toBitVec.toNat 12 = popN (usN (near b) ti n).toBitVec.toNat 12
          · rw [if_pos ((sub_eq _ _ u1 u2).mpr c2)]
            by_cases c3 : popN (near i).toBitVec.toNat 12 ≤ popN (near b).toBitVec.toNat 12
            · rw [if_pos ((sub_le _ _ v1 v2).mpr c3), gB_eq, nI_1]
              exact no (by omega)
            · rw [if_neg (fun q => c3 ((sub_le _ _ v1 v2).mp q)), gB_eq, nI_1]
              exact yes (by omega)
          · rw [if_neg (fun q => c2 ((sub_eq _ _ u1 u2).mp q)), gB_eq, nI_1]
            exact no (by omega)
      · rw [if_neg hti, gB_eq, nI_1]
        exact hk1 _ (Or.inr ⟨b, rfl, bestP_skip hb (fun q => absurd q hti)⟩)
