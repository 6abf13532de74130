/-! arcs of the class -/
theorem cpy_ok {m : Nat} (hm : m ≤ 16) : cpyB (0 : Int32) (0 : Int32) (nI m) 16 40 = true := by
  unfold cpyB
  rw [nI_clamp (by omega)]
  have h0 : ¬ nI m < 0 := nI_pos (by omega)
  simp only [decide_eq_true_eq, Bool.and_eq_true]
  exact ⟨by decide, by decide, h0, by show 0 + m ≤ 16; omega, by show 0 + m ≤ 40; omega⟩
theorem CS_arcs_ok {F n m : Nat} {b2 a1 a2 a3 a4 a5 a6 : Int32} {near tail head paint pnear uses shades : Nat → Int32} {free : Nat → Nat → Int32} (h : GR n m near tail head) (hm : m ≤ 16) (hF : 100 < F) : OK (m_CS_arcs F (nI n) (nI m) b2 near tail head a1 a2 a3 a4 a5 a6 paint pnear uses shades free) (fun r => ∃ (k : Nat) (f : Nat → Nat), r.1 = nI k ∧ arcsIs tail head m k f ∧ showsA m f r.2.2.2.2.2.2.2.2.2.2.1) := by
  have hM := mostN_le near n
  unfold m_CS_arcs
  rw [if_pos (show nI m ≤ 16 from nI_le (a := m) (b := 16) hm (by omega))]
  refine OK_gM (P' := fun a => a = _) ⟨_, Net_mostNear_ok h (by omega), rfl⟩ ?_
  rintro _ rfl
  have key : ∀ k : Nat, (∀ j, j < k → ∀ g, ¬ VA tail head m j g) → k ≤ m := fun k hk => Nat.not_lt.mp fun q => hk m q _ VA_id
  refine OK_for 12 (fun k z => ∃ (a1 a2 a3 a4 a5 a6 : Int32) (paint pnear uses : Nat → Int32) (free : Nat → Nat → Int32), z = (nI k, a1, a2, a3, a4, a5, a6, paint, pnear, uses, free) ∧ ∀ j, j < k → ∀ g, ¬ VA tail head m j g) ?_ ?_ F (mostN near n) _ hM ⟨_, _, _, _, _, _, _, _, _, _, rfl, fun j hj g hg => by have := mostN_need h hg; omega⟩ (by omega)
  · rintro k1 z ⟨a1, a2, a3, a4, a5, a6, paint, pnear, uses, free, rfl, hno⟩
    try dsimp only
    rw [if_neg (show ¬ (12 : Int32) < nI 12 from nI_nlt (a := 12) (b := 12) (by omega) (by omega))]
    refine OK_gM (Pai_startArcs_ok h hm hF) ?_
    rintro _ ⟨near', hnr, rfl⟩
    try dsimp only
    refine OK_gM (Pai_arcs_ok hm hnr (Nat.le_refl 12) hF) ?_
    rintro ⟨q, bn, pt, us, fr⟩ (⟨rfl, f, hrow, hf⟩ | ⟨rfl, h2⟩)
    · try dsimp only
      rw [if_neg (show ¬ (1 : Int32) = 0 by decide), gC_t (cpy_ok hm)]
      refine OK_some ⟨12, f, rfl, ⟨key 12 hno, hno, hf⟩, ?_⟩
      show showsA m f (va_cpy pt (fillA 40 (-1) shades) (0 : Int32).toNatClampNeg (0 : Int32).toNatClampNeg (nI m).toNatClampNeg)
      rw [nI_clamp (by omega)]
      exact showsA_of hrow
    · obtain ⟨f, hf⟩ := arcs_12 h hm
      exact absurd hf (h2 _)
  · rintro k1 k z hk ⟨a1, a2, a3, a4, a5, a6, paint, pnear, uses, free, rfl, hno⟩ hk1
    try dsimp only
    rw [if_neg (show ¬ (12 : Int32) < nI k from nI_nlt (a := 12) (b := k) (by omega) (by omega))]
    refine OK_gM (Pai_startArcs_ok h hm hF) ?_
    rintro _ ⟨near', hnr, rfl⟩
    try dsimp only
    refine OK_gM (Pai_arcs_ok hm hnr (by omega) hF) ?_
    rintro ⟨q, bn, pt, us, fr⟩ (⟨rfl, f, hrow, hf⟩ | ⟨rfl, h2⟩)
    · try dsimp only
      rw [if_neg (show ¬ (1 : Int32) = 0 by decide), gC_t (cpy_ok hm)]
      refine OK_some ⟨k, f, rfl, ⟨key k hno, hno, hf⟩, ?_⟩
      show showsA m f (va_cpy pt (fillA 40 (-1) shades) (0 : Int32).toNatClampNeg (0 : Int32).toNatClampNeg (nI m).toNatClampNeg)
      rw [nI_clamp (by omega)]
      exact showsA_of hrow
    · try dsimp only
      rw [if_pos rfl, gB_eq, nI_1]
      refine hk1 _ ⟨_, _, _, _, _, _, _, _, _, _, rfl, fun j hj => ?_⟩
      by_cases e : j = k
      · rw [e]; exact h2
      · exact hno j (by omega)
