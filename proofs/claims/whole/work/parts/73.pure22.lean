/-! PURE, 22: the search, b: what is kept -/
theorem Mo_keep_ok {F n : Nat} {t a y z e1 e2 p : Int32} {co row : Nat → Int32} (hn : n ≤ 12) (hF : 12 < F) : OK (m_Mo_keepColours F t (nI n) a y z e1 e2 co row p) (fun r => ∀ v, v < 12 → r v = if ¬ p = 0 ∧ v < n then row v else -1) := by
  unfold m_Mo_keepColours
  refine OK_for 12 (fun i z => ∃ f : Nat → Int32, z = (nI i, f) ∧ ∀ v, v < i → f v = if ¬ p = 0 ∧ v < n then row v else -1) ?_ ?_ F 0 _ (by omega) ⟨co, rfl, fun v hv => by omega⟩ (by omega)
  · rintro k1 z ⟨f, rfl, hf⟩
    dsimp only
    rw [if_pos (show (12 : Int32) ≤ nI 12 from nI_le (Nat.le_refl _) (by omega))]
    exact OK_some hf
  · rintro k1 i z hi ⟨f, rfl, hf⟩ hk1
    dsimp only
    rw [if_neg (show ¬ (12 : Int32) ≤ nI i from nI_ge (a := i) (b := 12) hi (by omega))]
    refine OK_gBQ (fun J => ∀ s : Int32, s = (if ¬ p = 0 ∧ i < n then row i else -1) → OK (J s) (fun r => ∀ v, v < 12 → r v = if ¬ p = 0 ∧ v < n then row v else -1)) ?_ ?_
    · intro s hs
      try dsimp only
      rw [gC_t (inb_nI (by omega) (by omega)), gB_eq, nI_1, nI_clamp (by omega)]
      refine hk1 _ ⟨_, rfl, fun v hv => ?_⟩
      by_cases e : v = i
      · subst e; rw [upd_same]; exact hs
      · rw [upd_ne e]; exact hf v (by omega)
    · intro J hJ
      rw [gB_eq]
      by_cases hp : p = 0
      · rw [if_pos hp]
        exact hJ _ (by rw [if_neg (fun q => q.1 hp)])
      · rw [if_neg hp]
        by_cases hin : i < n
        · rw [if_neg (nI_ge hin (by omega)), gC_t (inb_nI (by omega) (by omega)), nI_clamp (by omega)]
          exact hJ _ (by rw [if_pos ⟨hp, hin⟩])
        · rw [if_pos (nI_le (by omega) (by omega))]
          exact hJ _ (by rw [if_neg (fun q => hin q.2)])
