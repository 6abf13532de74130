/-! PURE, 18: clique and apart, d: grow -/
theorem nI_add' (a b : Nat) : nI a + nI b = nI (a + b) := by
  induction b with
  | zero => exact Int32.add_zero _
  | succ b ih => rw [← nI_1, ← Int32.add_assoc, ih, nI_1, Nat.add_assoc]
theorem GS_iff {P Q : Int32 → Prop} {b r : Int32} (h : GS P b r) (e : ∀ x, P x ↔ Q x) : GS Q b r := by
  rcases h with ⟨a, h1⟩ | ⟨h1, h2, h3⟩
  · exact Or.inl ⟨a, fun x hx => h1 x ((e x).mpr hx)⟩
  · exact Or.inr ⟨(e r).mp h1, h2, fun x hx => h3 x ((e x).mpr hx)⟩
theorem full_DR {fits : Nat → Int32} {ch ca : Int32} (v : Nat) : ∀ x, extS fits ch ca x ↔ extD fits ch ca v x ∨ extR fits ch ca v x := by
  intro x
  constructor
  · rintro ⟨s, s1, s2, rfl⟩
    by_cases h0 : s = 0
    · exact Or.inl ⟨s, s1, s2, Or.inl h0, rfl⟩
    · by_cases hw : ∃ w, w < v ∧ bt s w = true
      · exact Or.inl ⟨s, s1, s2, Or.inr hw, rfl⟩
      · refine Or.inr ⟨s, s1, s2, ?_, fun w hv => ?_, rfl⟩
        · refine Classical.byContradiction (fun q => h0 ((b_eq0 s).mpr (fun i hi => ?_)))
          cases e : bt s i with
          | false => rfl
          | true => exact absurd ⟨i, hi, e⟩ q
        · cases e : bt s w with
          | false => rfl
          | true => exact absurd ⟨w, hv, e⟩ hw
  · rintro (⟨s, s1, s2, -, rfl⟩ | ⟨s, s1, s2, -, -, rfl⟩)
    · exact ⟨s, s1, s2, rfl⟩
    · exact ⟨s, s1, s2, rfl⟩
theorem D_0 {fits : Nat → Int32} {ch ca : Int32} : ∀ x, x = ch ↔ extD fits ch ca 0 x := by
  intro x
  constructor
  · rintro rfl
    exact ⟨0, (fun i _ q => by rw [b_0] at q; cases q), (fun u v _ _ q => by rw [b_0] at q; cases q), Or.inl rfl, (i_or0 x).symm⟩
  · rintro ⟨s, -, -, (rfl | ⟨w, hw, -⟩), rfl⟩
    · exact i_or0 ch
    · omega
theorem D_12 {fits : Nat → Int32} {ch ca : Int32} (hM : M12 ca) : ∀ x, extD fits ch ca 12 x ↔ extS fits ch ca x := by
  intro x
  rw [full_DR 12 x]
  constructor
  · exact Or.inl
  · rintro (q | ⟨s, s1, s2, ⟨w, hw, hb⟩, s4, rfl⟩)
    · exact q
    · exfalso
      by_cases q : w < 12
      · rw [s4 w q] at hb; cases hb
      · have := M12_bt hM (by omega) hw
        rw [s1 w hw hb] at this
        cases this
theorem D_skip {fits : Nat → Int32} {ch ca : Int32} {v : Nat} (hv : v < 32) (h : bt ca v = false) : ∀ x, extD fits ch ca v x ↔ extD fits ch ca (v + 1) x := by
  intro x
  constructor
  · rintro ⟨s, s1, s2, (s3 | ⟨w, hw, hb⟩), e⟩
    · exact ⟨s, s1, s2, Or.inl s3, e⟩
    · exact ⟨s, s1, s2, Or.inr ⟨w, by omega, hb⟩, e⟩
  · rintro ⟨s, s1, s2, (s3 | ⟨w, hw, hb⟩), e⟩
    · exact ⟨s, s1, s2, Or.inl s3, e⟩
    · refine ⟨s, s1, s2, Or.inr ⟨w, ?_, hb⟩, e⟩
      by_cases q : w = v
      · subst q; rw [s1 w hv hb] at h; cases h
      · omega
theorem D_call {fits : Nat → Int32} {ch ca ca' : Int32} {v : Nat} (hv : v < 12) (hM : M12 ca) (h : bt ca v = true) (hc : ∀ i, i < 32 → (bt ca' i = true ↔ bt ca i = true ∧ v < i ∧ bt (fits v) i = true)) : ∀ x, extS fits (ch ||| ((1 : Int32) <<< (nI v &&& 31))) ca' x ↔ ∃ s, sub s ca ∧ pf fits s ∧ bt s v = true ∧ (∀ w, w < v → bt s w = false) ∧ x = ch ||| s := by
  intro x
  constructor
  · rintro ⟨s, s1, s2, rfl⟩
    have key : ∀ i, i < 32 → (bt (((1 : Int32) <<< (nI v &&& 31)) ||| s) i = true ↔ i = v ∨ bt s i = true) := by
      intro i hi
      rw [b_or, b_one (by omega) hi]
      simp
    refine ⟨((1 : Int32) <<< (nI v &&& 31)) ||| s, fun i hi q => ?_, fun u w huw hw q1 q2 => ?_, (key v (by omega)).mpr (Or.inl rfl), fun w hw => ?_, ?_⟩
    · rcases (key i hi).mp q with rfl | q
      · exact h
      · exact ((hc i hi).mp (s1 i hi q)).1
    · rcases (key u (by omega)).mp q1 with e1 | e1 <;> rcases (key w (by omega)).mp q2 with e2 | e2
      · omega
      · subst e1; exact ((hc w (by omega)).mp (s1 w (by omega) e2)).2.2
      · have := ((hc u (by omega)).mp (s1 u (by omega) e1)).2.1
        omega
      · exact s2 u w huw hw e1 e2
    · cases e : bt (((1 : Int32) <<< (nI v &&& 31)) ||| s) w with
      | false => rfl
      | true =>
        rcases (key w (by omega)).mp e with q | q
        · omega
        · have := ((hc w (by omega)).mp (s1 w (by omega) q)).2.1
          omega
    · apply b_ext
      intro i hi
      rw [b_or, b_or, b_or, b_or, Bool.or_assoc]
  · rintro ⟨s, s1, s2, s3, s4, rfl⟩
    have key : ∀ u, u < 32 → (bt (s &&& (((1 : Int32) <<< (nI v &&& 31)) ^^^ (-1))) u = true ↔ bt s u = true ∧ u ≠ v) := by
      intro u hu
      rw [b_and, b_not _ hu, b_one (by omega) hu]
      by_cases e : u = v
      · simp [e]
      · simp [e]
    refine ⟨s &&& (((1 : Int32) <<< (nI v &&& 31)) ^^^ (-1)), fun i hi q => ?_, fun u w huw hw q1 q2 => ?_, ?_⟩
    · obtain ⟨q1, q2⟩ := (key i hi).mp q
      have hca := s1 i hi q1
      have h12 : i < 12 := by
        by_cases q : i < 12
        · exact q
        · rw [M12_bt hM (by omega) hi] at hca; cases hca
      have hvi : v < i := by
        by_cases q : i < v
        · rw [s4 i q] at q1; cases q1
        · omega
      exact (hc i hi).mpr ⟨hca, hvi, s2 v i hvi h12 s3 q1⟩
    · exact s2 u w huw hw ((key u (by omega)).mp q1).1 ((key w (by omega)).mp q2).1
    · apply b_ext
      intro i hi
      rw [b_or, b_or, b_or, b_one (by omega) hi]
      by_cases e : i = v
      · subst e; rw [s3]; simp
      · have e2 : bt (s &&& (((1 : Int32) <<< (nI v &&& 31)) ^^^ (-1))) i = bt s i := by
          rw [Bool.eq_iff_iff, key i hi]
          exact ⟨fun q => q.1, fun q => ⟨q, e⟩⟩
        rw [e2]
        simp [e]
theorem D_step {fits : Nat → Int32} {ch ca : Int32} {v : Nat} : ∀ x, extD fits ch ca (v + 1) x ↔ extD fits ch ca v x ∨ ∃ s, sub s ca ∧ pf fits s ∧ bt s v = true ∧ (∀ w, w < v → bt s w = false) ∧ x = ch ||| s := by
  intro x
  constructor
  · rintro ⟨s, s1, s2, s3, rfl⟩
    by_cases hw : s = 0 ∨ ∃ w, w < v ∧ bt s w = true
    · exact Or.inl ⟨s, s1, s2, hw, rfl⟩
    · have hn : ∀ w, w < v → bt s w = false := fun w hv => by
        cases e : bt s w with
        | false => rfl
        | true => exact absurd (Or.inr ⟨w, hv, e⟩) hw
      rcases s3 with s3 | ⟨w, h1, h2⟩
      · exact absurd (Or.inl s3) hw
      · have e : w = v := by
          by_cases q : w < v
          · rw [hn w q] at h2; cases h2
          · omega
        subst e
        exact Or.inr ⟨s, s1, s2, h2, hn, rfl⟩
  · rintro (⟨s, s1, s2, (s3 | ⟨w, hw, hb⟩), e⟩ | ⟨s, s1, s2, s3, s4, e⟩)
    · exact ⟨s, s1, s2, Or.inl s3, e⟩
    · exact ⟨s, s1, s2, Or.inr ⟨w, by omega, hb⟩, e⟩
    · exact ⟨s, s1, s2, Or.inr ⟨v, by omega, s3⟩, e⟩
