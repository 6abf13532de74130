/-! PURE, 23: the search, c: a new colour out of turn -/
def newTw (row : Nat → Int32) (i c : Nat) : Prop := ∃ d, d < c ∧ ∀ u, u < i → ¬ row u = nI d
theorem Mo_newTwice_ok {F i c : Nat} {t n' a y z e1 e2 : Int32} {row : Nat → Int32} (hi : i ≤ 12) (hc : c ≤ 12) (hF : 12 < F) : OK (m_Mo_isNewTwice F t n' a y z e1 e2 row (nI i) (nI c)) (fun r => (r = 1 ∧ newTw row i c) ∨ (r = 0 ∧ ¬ newTw row i c)) := by
  unfold m_Mo_isNewTwice
  refine OK_for c (fun m z => (z = (1, nI m) ∧ newTw row i m) ∨ (z = (0, nI m) ∧ ¬ newTw row i m)) ?_ ?_ F 0 _ (by omega) (Or.inr ⟨rfl, fun ⟨d, hd, _⟩ => by omega⟩) (by omega)
  · rintro k1 z (⟨rfl, hq⟩ | ⟨rfl, hq⟩)
    · dsimp only
      rw [if_pos (nI_le (Nat.le_refl _) (by omega)), gC_t (show bzB 1 = true by decide)]
      exact OK_some (Or.inl ⟨rfl, hq⟩)
    · dsimp only
      rw [if_pos (nI_le (Nat.le_refl _) (by omega)), gC_t (show bzB 0 = true by decide)]
      exact OK_some (Or.inr ⟨rfl, hq⟩)
  · intro k1 m z hm hz hk1
    obtain ⟨x3, rfl, hx⟩ : ∃ x3 : Int32, z = (x3, nI m) ∧ ((x3 = 1 ∧ newTw row i m) ∨ (x3 = 0 ∧ ¬ newTw row i m)) := by
      rcases hz with ⟨rfl, hq⟩ | ⟨rfl, hq⟩
      · exact ⟨1, rfl, Or.inl ⟨rfl, hq⟩⟩
      · exact ⟨0, rfl, Or.inr ⟨rfl, hq⟩⟩
    dsimp only
    rw [if_neg (nI_ge hm (by omega))]
    refine OK_for i (fun w z => (z = (1, nI w) ∧ ∃ u, u < w ∧ row u = nI m) ∨ (z = (0, nI w) ∧ ∀ u, u < w → ¬ row u = nI m)) ?_ ?_ F 0 _ (by omega) (Or.inr ⟨rfl, fun u hu => by omega⟩) (by omega)
    · intro k2 z hz2
      have yes : newTw row i (m + 1) → OK (k1 (1, nI (m + 1))) (fun r => (r = 1 ∧ newTw row i c) ∨ (r = 0 ∧ ¬ newTw row i c)) := fun q => hk1 _ (Or.inl ⟨rfl, q⟩)
      rcases hx with ⟨rfl, d, hd, hdn⟩ | ⟨rfl, hn⟩
      · rcases hz2 with ⟨rfl, hw⟩ | ⟨rfl, hw⟩ <;>
        · dsimp only
          rw [if_pos (nI_le (Nat.le_refl _) (by omega)), gB_eq, if_neg (show ¬ (1 : Int32) = 0 by decide), gB_eq, nI_1]
          exact yes ⟨d, by omega, hdn⟩
      · rcases hz2 with ⟨rfl, u, hu, hw⟩ | ⟨rfl, hw⟩
        · dsimp only
          rw [if_pos (nI_le (Nat.le_refl _) (by omega)), gB_eq, if_pos rfl, if_neg (show ¬ (1 : Int32) = 0 by decide), gB_eq, nI_1]
          refine hk1 _ (Or.inr ⟨rfl, ?_⟩)
          rintro ⟨d, hd, hdn⟩
          by_cases e : d = m
          · subst e; exact hdn u hu hw
          · exact hn ⟨d, by omega, hdn⟩
        · dsimp only
          rw [if_pos (nI_le (Nat.le_refl _) (by omega)), gB_eq, if_pos rfl, if_pos rfl, gB_eq, nI_1]
          exact yes ⟨m, by omega, hw⟩
    · rintro k2 w z hw (⟨rfl, u, hu, e⟩ | ⟨rfl, hq⟩) hk2
      · dsimp only
        rw [if_neg (nI_ge hw (by omega)), gB_eq, if_neg (show ¬ (1 : Int32) = 0 by decide), gB_eq, nI_1]
        exact hk2 _ (Or.inl ⟨rfl, u, by omega, e⟩)
      · dsimp only
        rw [if_neg (nI_ge hw (by omega)), gB_eq, if_pos rfl, gC_t (inb_nI (by omega) (by omega)), nI_clamp (by omega)]
        by_cases e : row w = nI m
        · rw [if_pos e, gB_eq, nI_1]
          exact hk2 _ (Or.inl ⟨rfl, w, by omega, e⟩)
        · rw [if_neg e, gB_eq, nI_1]
          exact hk2 _ (Or.inr ⟨rfl, lt_s hq e⟩)
