/-! PURE, 6: what can be reached -/
/-- r is the least set of bits with sd in it, closed under near ones within wi -/
def IsCl (n : Nat) (near : Nat → Int32) (sd wi r : Int32) : Prop :=
  (∀ v, v < 32 → bt sd v = true → bt r v = true) ∧
  (∀ v u, v < n → u < 32 → bt r v = true → bt (near v) u = true → bt wi u = true → bt r u = true) ∧
  (∀ S : Nat → Prop, (∀ v, v < 32 → bt sd v = true → S v) → (∀ v u, v < n → u < 32 → S v → bt (near v) u = true → bt wi u = true → S u) → ∀ v, v < 32 → bt r v = true → S v)
theorem IsCl_uniq {n : Nat} {near : Nat → Int32} {sd wi r1 r2 : Int32} (h1 : IsCl n near sd wi r1) (h2 : IsCl n near sd wi r2) : r1 = r2 := by
  apply b_ext
  intro i hi
  have a := h1.2.2 (fun v => bt r2 v = true) h2.1 h2.2.1 i hi
  have b := h2.2.2 (fun v => bt r1 v = true) h1.1 h1.2.1 i hi
  cases e1 : bt r1 i with
  | true => exact (a e1).symm
  | false =>
    cases e2 : bt r2 i with
    | true => rw [b e2] at e1; cases e1
    | false => rfl
theorem bc_mono {x y : Int32} : ∀ n, (∀ v, v < n → bt x v = true → bt y v = true) → bc x n ≤ bc y n
  | 0, _ => Nat.le_refl 0
  | n + 1, h => by
    have ih := bc_mono n (fun v hv => h v (by omega))
    rw [bc_s, bc_s]
    by_cases hx : bt x n = true
    · rw [if_pos hx, if_pos (h n (by omega) hx)]; omega
    · rw [if_neg hx]; omega
theorem bc_more {x y : Int32} {w : Nat} : ∀ n, (∀ v, v < n → bt x v = true → bt y v = true) → w < n → bt x w = false → bt y w = true → bc x n + 1 ≤ bc y n
  | 0, _, h, _, _ => by omega
  | n + 1, h, hw, h1, h2 => by
    rw [bc_s, bc_s]
    by_cases hwn : w = n
    · subst hwn
      have ih := bc_mono w (fun v hv => h v (by omega))
      rw [if_neg (by rw [h1]; decide), if_pos h2]
      omega
    · have ih := bc_more n (fun v hv => h v (by omega)) (by omega) h1 h2
      by_cases hx : bt x n = true
      · rw [if_pos hx, if_pos (h n (by omega) hx)]; omega
      · rw [if_neg hx]; omega
theorem ne0_bit {x : Int32} (h : ¬ x = 0) : ∃ i, i < 32 ∧ bt x i = true := by
  by_cases hx : ∃ i, i < 32 ∧ bt x i = true
  · exact hx
  · refine absurd ((b_eq0 x).mpr fun i hi => ?_) h
    cases hb : bt x i with
    | false => rfl
    | true => exact absurd ⟨i, hi, hb⟩ hx
theorem Net_partOf_ok {F n k : Nat} {a v sd wi : Int32} {near tail head : Nat → Int32} (h : GR n k near tail head) (hsd : ∀ i, i < 32 → bt sd i = true → i < n) (hF : 12 < F) : OK (m_Net_partOf F (nI n) a v near sd wi) (fun r => IsCl n near sd wi r ∧ ∀ i, i < 32 → bt r i = true → i < n) := by
  have hn := h.1
  unfold m_Net_partOf
  refine OK_for 12 (fun i z => ∃ re fr : Int32, z = (re, fr, nI i) ∧ (∀ u, u < 32 → bt re u = true → u < n) ∧ (∀ u, u < 32 → bt fr u = true → bt re u = true) ∧ (∀ u, u < 32 → bt sd u = true → bt re u = true) ∧ (∀ w u, w < n → u < 32 → bt re w = true → bt fr w = false → bt (near w) u = true → bt wi u = true → bt re u = true) ∧ (∀ S : Nat → Prop, (∀ v, v < 32 → bt sd v = true → S v) → (∀ v u, v < n → u < 32 → S v → bt (near v) u = true → bt wi u = true → S u) → ∀ v, v < 32 → bt re v = true → S v) ∧ (fr = 0 ∨ i + 1 ≤ bc re n)) ?_ ?_ F 0 _ (by omega) ?_ (by omega)
  · rintro k1 z ⟨re, fr, rfl, h1, h2, h3, h4, h5, h6⟩
    dsimp only
    rw [if_pos (show (12 : Int32) ≤ nI 12 by decide)]
    have h0 : fr = 0 := by
      rcases h6 with h6 | h6
      · exact h6
      · have := bc_le re n; omega
    subst h0
    exact OK_some ⟨⟨h3, fun w u hw hu hr hn1 hwi => h4 w u hw hu hr (b_0 w) hn1 hwi, h5⟩, h1⟩
  · rintro k1 i z hi ⟨re, fr, rfl, h1, h2, h3, h4, h5, h6⟩ hk1
    dsimp only
    rw [if_neg (show ¬ (12 : Int32) ≤ nI i from nI_ge (b := 12) hi (by omega))]
    by_cases h0 : fr = 0
    · subst h0
      rw [if_pos rfl]
      exact OK_some ⟨⟨h3, fun w u hw hu hr hn1 hwi => h4 w u hw hu hr (b_0 w) hn1 hwi, h5⟩, h1⟩
    · rw [if_neg h0]
      refine OK_for n (fun j z => ∃ nx : Int32, z = (nx, nI j) ∧ ∀ u, u < 32 → (bt nx u = true ↔ ∃ w, w < j ∧ bt fr w = true ∧ bt (near w) u = true)) ?_ ?_ F 0 _ (by omega) ⟨0, rfl, fun u hu => ⟨(fun q => by rw [b_0] at q; cases q), (fun ⟨w, hw, _⟩ => by omega)⟩⟩ (by omega)
      · rintro k2 z ⟨nx, rfl, hx⟩
        dsimp only
        rw [if_pos (nI_le (Nat.le_refl _) (by omega)), gB_eq, gB_eq, gB_eq, nI_1]
        have hnew : ∀ u, u < 32 → (bt ((nx &&& wi) &&& (re ^^^ (-1))) u = true ↔ (∃ w, w < n ∧ bt fr w = true ∧ bt (near w) u = true) ∧ bt wi u = true ∧ bt re u = false) := by
          intro u hu
          rw [b_and, b_and, b_not _ hu, Bool.and_eq_true, Bool.and_eq_true, hx u hu, Bool.not_eq_true', and_assoc]
        have hor : ∀ u, u < 32 → bt (re ||| ((nx &&& wi) &&& (re ^^^ (-1)))) u = (bt re u || bt ((nx &&& wi) &&& (re ^^^ (-1))) u) := fun u _ => b_or _ _ _
        refine hk1 _ ⟨_, _, rfl, ?_, ?_, ?_, ?_, ?_, ?_⟩
        · intro u hu hb
          rw [hor u hu, Bool.or_eq_true] at hb
          rcases hb with hb | hb
          · exact h1 u hu hb
          · obtain ⟨⟨w, hw, -, hnu⟩, -, -⟩ := (hnew u hu).mp hb
            exact (h.2.2.1 w u (by omega) hu hnu).2.1
        · intro u hu hb
          rw [hor u hu, hb, Bool.or_true]
        · intro u hu hb
          rw [hor u hu, h3 u hu hb, Bool.true_or]
        · intro w u hw hu hre hfr hnu hwi
          rw [hor w (by omega), hfr, Bool.or_false] at hre
          rw [hor u hu]
          cases hru : bt re u with
          | true => rfl
          | false =>
            rw [Bool.false_or]
            apply (hnew u hu).mpr
            refine ⟨⟨w, hw, ?_, hnu⟩, hwi, hru⟩
            cases hf : bt fr w with
            | true => rfl
            | false => rw [h4 w u hw hu hre hf hnu hwi] at hru; cases hru
        · intro S hs1 hs2 u hu hb
          rw [hor u hu, Bool.or_eq_true] at hb
          rcases hb with hb | hb
          · exact h5 S hs1 hs2 u hu hb
          · obtain ⟨⟨w, hw, hfw, hnu⟩, hwi, -⟩ := (hnew u hu).mp hb
            exact hs2 w u hw hu (h5 S hs1 hs2 w (by omega) (h2 w (by omega) hfw)) hnu hwi
        · by_cases hz : (nx &&& wi) &&& (re ^^^ (-1)) = 0
          · exact Or.inl hz
          · right
            obtain ⟨u, hu, hb⟩ := ne0_bit hz
            obtain ⟨⟨w, hw, -, hnu⟩, -, hru⟩ := (hnew u hu).mp hb
            have hun := (h.2.2.1 w u (by omega) hu hnu).2.1
            have := bc_more (x := re) (y := re ||| ((nx &&& wi) &&& (re ^^^ (-1)))) n (fun v hv q => by rw [hor v (by omega), q, Bool.true_or]) hun hru (by rw [hor u hu, hb, Bool.or_true])
            rcases h6 with h6 | h6
            · exact absurd h6 h0
            · omega
      · rintro k2 j z hj ⟨nx, rfl, hx⟩ hk2
        dsimp only
        rw [if_neg (nI_ge hj (by omega))]
        cases hb : bt fr j with
        | false =>
          rw [if_pos ((b_test _ (by omega)).mpr hb), gB_eq, nI_1]
          refine hk2 _ ⟨nx, rfl, fun u hu => ?_⟩
          rw [hx u hu]
          constructor
          · rintro ⟨w, hw, q⟩; exact ⟨w, by omega, q⟩
          · rintro ⟨w, hw, q1, q2⟩
            by_cases hwj : w = j
            · subst hwj; rw [hb] at q1; cases q1
            · exact ⟨w, by omega, q1, q2⟩
        | true =>
          rw [if_neg (fun q => by rw [(b_test _ (by omega)).mp q] at hb; cases hb), gC_t (inb_nI (by omega) (by omega)), nI_clamp (by omega), gB_eq, gB_eq, nI_1]
          refine hk2 _ ⟨_, rfl, fun u hu => ?_⟩
          rw [b_or, Bool.or_eq_true, hx u hu]
          constructor
          · rintro (⟨w, hw, q⟩ | q)
            · exact ⟨w, by omega, q⟩
            · exact ⟨j, by omega, hb, q⟩
          · rintro ⟨w, hw, q1, q2⟩
            by_cases hwj : w = j
            · subst hwj; exact Or.inr q2
            · exact Or.inl ⟨w, by omega, q1, q2⟩
  · refine ⟨sd, sd, rfl, hsd, fun _ _ q => q, fun _ _ q => q, (fun w u _ _ q1 q2 => by rw [q1] at q2; cases q2), fun S hs1 _ => hs1, ?_⟩
    by_cases hz : sd = 0
    · exact Or.inl hz
    · right
      obtain ⟨u, hu, hb⟩ := ne0_bit hz
      have := bc_more (x := 0) (y := sd) n (fun v hv q => by rw [b_0] at q; cases q) (hsd u hu hb) (b_0 u) hb
      omega
