/-! PURE, 21: the search, a: what fits -/
def fitAt (near row : Nat → Int32) (i : Nat) (c : Int32) : Prop := ∀ u, u < i → bt (near i) u = true → ¬ row u = c
theorem Mo_fits_ok {F i : Nat} {t n' a y z e1 e2 c : Int32} {near row : Nat → Int32} (hi : i < 12) (hF : 12 < F) : OK (m_Mo_fits F t n' a y z e1 e2 near row (nI i) c) (fun r => (r = 1 ∧ fitAt near row i c) ∨ (r = 0 ∧ ¬ fitAt near row i c)) := by
  unfold m_Mo_fits
  refine OK_for i (fun m z => (z = (1, nI m) ∧ ∀ u, u < m → bt (near i) u = true → ¬ row u = c) ∨ (z = (0, nI m) ∧ ¬ fitAt near row i c)) ?_ ?_ F 0 _ (by omega) (Or.inl ⟨rfl, fun u hu => by omega⟩) (by omega)
  · rintro k1 z (⟨rfl, hq⟩ | ⟨rfl, hq⟩)
    · dsimp only
      rw [if_pos (nI_le (Nat.le_refl _) (by omega)), gC_t (show bzB 1 = true by decide)]
      exact OK_some (Or.inl ⟨rfl, hq⟩)
    · dsimp only
      rw [if_pos (nI_le (Nat.le_refl _) (by omega)), gC_t (show bzB 0 = true by decide)]
      exact OK_some (Or.inr ⟨rfl, hq⟩)
  · rintro k1 m z hm (⟨rfl, hq⟩ | ⟨rfl, hq⟩) hk1
    · dsimp only
      rw [if_neg (nI_ge hm (by omega)), if_neg (show ¬ (1 : Int32) = 0 by decide), gC_t (inb_nI (by omega) (by omega)), gB_eq, nI_clamp (by omega), gB_eq, nI_1]
      by_cases hb : bt (near i) m = true
      · rw [if_pos ((bit_one (near i) (by omega)).mpr hb), gC_t (inb_nI (by omega) (by omega)), nI_clamp (by omega)]
        by_cases hc : row m = c
        · rw [if_pos hc]
          exact hk1 _ (Or.inr ⟨rfl, fun q => q m hm hb hc⟩)
        · rw [if_neg hc]
          exact hk1 _ (Or.inl ⟨rfl, lt_s hq (fun _ => hc)⟩)
      · rw [if_neg (fun q => hb ((bit_one (near i) (by omega)).mp q))]
        exact hk1 _ (Or.inl ⟨rfl, lt_s hq (fun q => absurd q hb)⟩)
    · dsimp only
      rw [if_neg (nI_ge hm (by omega)), if_pos rfl, gB_eq, nI_1]
      exact hk1 _ (Or.inr ⟨rfl, hq⟩)
