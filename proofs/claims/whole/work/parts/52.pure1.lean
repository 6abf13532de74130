/-! PURE, 1: the net: nodes 0 .. n-1, arcs 0 .. k-1, near as bits -/
def GR (n k : Nat) (near tail head : Nat → Int32) : Prop :=
  n ≤ 12 ∧ k ≤ 40 ∧
  (∀ v u, v < 12 → u < 32 → bt (near v) u = true → v < n ∧ u < n ∧ u ≠ v ∧ ∃ i, i < k ∧ ((tail i = nI v ∧ head i = nI u) ∨ (tail i = nI u ∧ head i = nI v))) ∧
  (∀ i, i < k → ∃ a b, a < n ∧ b < n ∧ a ≠ b ∧ tail i = nI a ∧ head i = nI b ∧ bt (near a) b = true ∧ bt (near b) a = true) ∧
  (∀ i j, i < k → j < k → tail i = tail j → head i = head j → i = j) ∧
  (∀ i j, i < k → j < k → tail i = head j → head i = tail j → i = j)
theorem GR_sym {n k : Nat} {near tail head : Nat → Int32} (h : GR n k near tail head) {v u : Nat} (hv : v < 12) (hu : u < 32) (hb : bt (near v) u = true) : bt (near u) v = true := by
  obtain ⟨hn, hk, h1, h2, -, -⟩ := h
  obtain ⟨hvn, hun, -, i, hi, ho⟩ := h1 v u hv hu hb
  obtain ⟨a, b, ha, hb', -, e1, e2, e3, e4⟩ := h2 i hi
  rcases ho with ⟨o1, o2⟩ | ⟨o1, o2⟩
  · have ea : a = v := nI_inj (by omega) (by omega) (e1.symm.trans o1)
    have eb : b = u := nI_inj (by omega) (by omega) (e2.symm.trans o2)
    subst ea; subst eb; exact e4
  · have ea : a = u := nI_inj (by omega) (by omega) (e1.symm.trans o1)
    have eb : b = v := nI_inj (by omega) (by omega) (e2.symm.trans o2)
    subst ea; subst eb; exact e3
theorem GR_node {n k : Nat} {near tail head : Nat → Int32} (h : GR n k near tail head) (hn : n < 12) : GR (n + 1) k near tail head := by
  obtain ⟨-, hk, h1, h2, h3, h4⟩ := h
  refine ⟨by omega, hk, ?_, ?_, h3, h4⟩
  · intro v u hv hu hb
    obtain ⟨a, b, c, d⟩ := h1 v u hv hu hb
    exact ⟨by omega, by omega, c, d⟩
  · intro i hi
    obtain ⟨a, b, ha, hb, r⟩ := h2 i hi
    exact ⟨a, b, by omega, by omega, r⟩
theorem GR_out {n k : Nat} {near tail head : Nat → Int32} (h : GR n k near tail head) {v : Nat} (hv : n ≤ v) (hv2 : v < 12) : near v = 0 := by
  rw [b_eq0]
  intro i hi
  cases hb : bt (near v) i with
  | false => rfl
  | true => have := (h.2.2.1 v i hv2 hi hb).1; omega
/-- near with the arc a, b; without it -/
def nearA (near : Nat → Int32) (a b : Nat) : Nat → Int32 := upd (upd near a ((near a) ||| ((1 : Int32) <<< (nI b &&& 31)))) b (((upd near a ((near a) ||| ((1 : Int32) <<< (nI b &&& 31)))) b) ||| ((1 : Int32) <<< (nI a &&& 31)))
def nearD (near : Nat → Int32) (a b : Nat) : Nat → Int32 := upd (upd near a ((near a) &&& (((1 : Int32) <<< (nI b &&& 31)) ^^^ (-1)))) b (((upd near a ((near a) &&& (((1 : Int32) <<< (nI b &&& 31)) ^^^ (-1)))) b) &&& (((1 : Int32) <<< (nI a &&& 31)) ^^^ (-1)))
theorem nearA_bt {near : Nat → Int32} {a b v u : Nat} (ha : a < 32) (hb : b < 32) (hab : a ≠ b) (hu : u < 32) : bt (nearA near a b v) u = (bt (near v) u || (decide (v = a) && decide (u = b)) || (decide (v = b) && decide (u = a))) := by
  unfold nearA
  by_cases h1 : v = b
  · subst h1
    rw [upd_same, upd_ne (Ne.symm hab), b_or, b_one ha hu]
    simp [Ne.symm hab]
  · rw [upd_ne h1]
    by_cases h2 : v = a
    · subst h2
      rw [upd_same, b_or, b_one hb hu]
      simp [h1]
    · rw [upd_ne h2]
      simp [h1, h2]
theorem nearD_bt {near : Nat → Int32} {a b v u : Nat} (ha : a < 32) (hb : b < 32) (hab : a ≠ b) (hu : u < 32) : bt (nearD near a b v) u = (bt (near v) u && !(decide (v = a) && decide (u = b)) && !(decide (v = b) && decide (u = a))) := by
  unfold nearD
  by_cases h1 : v = b
  · subst h1
    rw [upd_same, upd_ne (Ne.symm hab), b_and, b_not _ hu, b_one ha hu]
    simp [Ne.symm hab]
  · rw [upd_ne h1]
    by_cases h2 : v = a
    · subst h2
      rw [upd_same, b_and, b_not _ hu, b_one hb hu]
      simp [h1]
    · rw [upd_ne h2]
      simp [h1, h2]
theorem GR_arc {n k a b : Nat} {near tail head : Nat → Int32} (h : GR n k near tail head) (ha : a < n) (hb : b < n) (hab : a ≠ b) (hf : bt (near a) b = false) (hk : k < 40) : GR n (k + 1) (nearA near a b) (upd tail k (nI a)) (upd head k (nI b)) := by
  have hs := h
  obtain ⟨hn, -, h1, h2, h3, h4⟩ := h
  have hf2 : bt (near b) a = false := by
    cases hb2 : bt (near b) a with
    | false => rfl
    | true => rw [GR_sym hs (by omega) (by omega) hb2] at hf; cases hf
  have old : ∀ i, i < k → ¬ (tail i = nI a ∧ head i = nI b) ∧ ¬ (tail i = nI b ∧ head i = nI a) := by
    intro i hi
    obtain ⟨x, y, hx, hy, -, e1, e2, e3, e4⟩ := h2 i hi
    constructor
    · rintro ⟨o1, o2⟩
      have ea : x = a := nI_inj (by omega) (by omega) (e1.symm.trans o1)
      have eb : y = b := nI_inj (by omega) (by omega) (e2.symm.trans o2)
      subst ea; subst eb; rw [e3] at hf; cases hf
    · rintro ⟨o1, o2⟩
      have ea : x = b := nI_inj (by omega) (by omega) (e1.symm.trans o1)
      have eb : y = a := nI_inj (by omega) (by omega) (e2.symm.trans o2)
      subst ea; subst eb; rw [e3] at hf2; cases hf2
  refine ⟨hn, by omega, ?_, ?_, ?_, ?_⟩
  · intro v u hv hu hbt
    rw [nearA_bt (by omega) (by omega) hab hu] at hbt
    simp only [Bool.or_eq_true, Bool.and_eq_true, decide_eq_true_eq] at hbt
    rcases hbt with (hbt | ⟨rfl, rfl⟩) | ⟨rfl, rfl⟩
    · obtain ⟨q1, q2, q3, i, hi, q4⟩ := h1 v u hv hu hbt
      refine ⟨q1, q2, q3, i, by omega, ?_⟩
      rw [upd_ne (by omega), upd_ne (by omega)]
      exact q4
    · exact ⟨ha, hb, Ne.symm hab, k, by omega, Or.inl ⟨upd_same _ _ _, upd_same _ _ _⟩⟩
    · exact ⟨hb, ha, hab, k, by omega, Or.inr ⟨upd_same _ _ _, upd_same _ _ _⟩⟩
  · intro i hi
    by_cases hik : i = k
    · subst hik
      refine ⟨a, b, ha, hb, hab, upd_same _ _ _, upd_same _ _ _, ?_, ?_⟩
      · rw [nearA_bt (by omega) (by omega) hab (by omega)]; simp
      · rw [nearA_bt (by omega) (by omega) hab (by omega)]; simp
    · obtain ⟨x, y, hx, hy, hxy, e1, e2, e3, e4⟩ := h2 i (by omega)
      refine ⟨x, y, hx, hy, hxy, by rw [upd_ne hik]; exact e1, by rw [upd_ne hik]; exact e2, ?_, ?_⟩
      · rw [nearA_bt (by omega) (by omega) hab (by omega), e3]; rfl
      · rw [nearA_bt (by omega) (by omega) hab (by omega), e4]; rfl
  · intro i j hi hj e1 e2
    by_cases hik : i = k
    · by_cases hjk : j = k
      · omega
      · rw [hik, upd_same, upd_ne hjk] at e1 e2
        exact absurd ⟨e1.symm, e2.symm⟩ (old j (by omega)).1
    · by_cases hjk : j = k
      · rw [hjk, upd_same, upd_ne hik] at e1 e2
        exact absurd ⟨e1, e2⟩ (old i (by omega)).1
      · rw [upd_ne hik, upd_ne hjk] at e1 e2
        exact h3 i j (by omega) (by omega) e1 e2
  · intro i j hi hj e1 e2
    by_cases hik : i = k
    · by_cases hjk : j = k
      · omega
      · rw [hik, upd_same, upd_ne hjk] at e1 e2
        exact absurd ⟨e2.symm, e1.symm⟩ (old j (by omega)).2
    · by_cases hjk : j = k
      · rw [hjk, upd_same, upd_ne hik] at e1 e2
        exact absurd ⟨e1, e2⟩ (old i (by omega)).2
      · rw [upd_ne hik, upd_ne hjk] at e1 e2
        exact h4 i j (by omega) (by omega) e1 e2
theorem GR_drop {n k a b : Nat} {near tail head : Nat → Int32} (h : GR n (k + 1) near tail head) (ha : tail k = nI a) (hb : head k = nI b) (ha2 : a < n) (hb2 : b < n) (hab : a ≠ b) : GR n k (nearD near a b) tail head := by
  obtain ⟨hn, hk, h1, h2, h3, h4⟩ := h
  refine ⟨hn, by omega, ?_, ?_, fun i j hi hj => h3 i j (by omega) (by omega), fun i j hi hj => h4 i j (by omega) (by omega)⟩
  · intro v u hv hu hbt
    rw [nearD_bt (by omega) (by omega) hab hu] at hbt
    simp only [Bool.and_eq_true, Bool.not_eq_true', Bool.and_eq_false_iff, decide_eq_false_iff_not] at hbt
    obtain ⟨⟨q0, n1⟩, n2⟩ := hbt
    obtain ⟨q1, q2, q3, i, hi, q4⟩ := h1 v u hv hu q0
    refine ⟨q1, q2, q3, i, ?_, q4⟩
    by_cases hik : i = k
    · exfalso
      subst hik
      rcases q4 with ⟨o1, o2⟩ | ⟨o1, o2⟩
      · have ea : a = v := nI_inj (by omega) (by omega) (ha.symm.trans o1)
        have eb : b = u := nI_inj (by omega) (by omega) (hb.symm.trans o2)
        rcases n1 with n1 | n1
        · exact n1 ea.symm
        · exact n1 eb.symm
      · have ea : a = u := nI_inj (by omega) (by omega) (ha.symm.trans o1)
        have eb : b = v := nI_inj (by omega) (by omega) (hb.symm.trans o2)
        rcases n2 with n2 | n2
        · exact n2 eb.symm
        · exact n2 ea.symm
    · omega
  · intro i hi
    obtain ⟨x, y, hx, hy, hxy, e1, e2, e3, e4⟩ := h2 i (by omega)
    have p1 : ¬ (x = a ∧ y = b) := by
      rintro ⟨rfl, rfl⟩
      have := h3 i k (by omega) (by omega) (e1.trans ha.symm) (e2.trans hb.symm)
      omega
    have p2 : ¬ (x = b ∧ y = a) := by
      rintro ⟨rfl, rfl⟩
      have := h4 i k (by omega) (by omega) (e1.trans hb.symm) (e2.trans ha.symm)
      omega
    refine ⟨x, y, hx, hy, hxy, e1, e2, ?_, ?_⟩
    · rw [nearD_bt (by omega) (by omega) hab (by omega), e3]
      simp only [Bool.true_and, Bool.and_eq_true, Bool.not_eq_true', Bool.and_eq_false_iff, decide_eq_false_iff_not]
      omega
    · rw [nearD_bt (by omega) (by omega) hab (by omega), e4]
      simp only [Bool.true_and, Bool.and_eq_true, Bool.not_eq_true', Bool.and_eq_false_iff, decide_eq_false_iff_not]
      omega
theorem GR_0 {near tail head : Nat → Int32} (h : ∀ v, v < 12 → near v = 0) : GR 0 0 near tail head := by
  refine ⟨by omega, by omega, ?_, ?_, ?_, ?_⟩
  · intro v u hv _ hb
    rw [h v hv, b_0] at hb
    cases hb
  · intro i hi; omega
  · intro i j hi; omega
  · intro i j hi; omega
