/-! PURE, 16: clique and apart, b: the reference's greatest -/
theorem pw_sh : ∀ n, n < 13 → (1 : Int32) <<< (nI n &&& 31) = nI (2 ^ n) := by decide +kernel
theorem pw_le {n : Nat} (hn : n ≤ 12) : 2 ^ n ≤ 4096 := Nat.pow_le_pow_right (n := 2) (by omega) hn
theorem nI_M {x : Nat} (h : x < 4096) : M12 (nI x) := by
  unfold M12
  have e : (nI x).toBitVec.toNat = x := by
    have e2 := nI_self (nI x)
    exact (nI_inj (a := x) (by omega) (by have := (nI x).toBitVec.isLt; have e3 : (nI x).toBitVec.toNat = x % 2 ^ 32 := rfl; omega) e2).symm
  omega
theorem nI_hi {n x : Nat} (hn : n ≤ 12) (h : x < 2 ^ n) : ∀ i, n ≤ i → i < 32 → bt (nI x) i = false := by
  intro i h1 h2
  rw [bt_nI x h2]
  apply Nat.testBit_lt_two_pow
  exact Nat.lt_of_lt_of_le h (Nat.pow_le_pow_right (by omega) h1)
/-- b is the best of the sets below m -/
def bestS (n : Nat) (near : Nat → Int32) (p1 : Int32) (m : Nat) (b : Int32) : Prop := ∃ k, b = nI k ∧ k < m ∧ goodS n near p1 b ∧ ∀ x, x < m → goodS n near p1 (nI x) → nI x = b ∨ better b (nI x)
theorem bestS_uniq {n m : Nat} {near : Nat → Int32} {p1 a b : Int32} (h1 : bestS n near p1 m a) (h2 : bestS n near p1 m b) : a = b := by
  obtain ⟨k, rfl, k1, k2, k3⟩ := h1
  obtain ⟨j, rfl, j1, j2, j3⟩ := h2
  rcases k3 j j1 j2 with q | q
  · exact q.symm
  · rcases j3 k k1 k2 with r | r
    · exact r
    · exact (better_asym q r).elim
theorem Mo_greatest_ok {F n k : Nat} {t a y z c d p1 : Int32} {near tail head near2 : Nat → Int32} (h : GR n k near tail head) (hnr : ∀ v, v < n → near2 v = near v) (hF : 4096 < F) : OK (m_Mo_greatest F t (nI n) a y z c d near2 p1) (fun r => bestS n near p1 (2 ^ n) r) := by
  have hn := h.1
  have hp := pw_le hn
  have hp1 : 1 ≤ 2 ^ n := Nat.one_le_two_pow
  unfold m_Mo_greatest
  rw [pw_sh n (by omega)]
  have st : bestS n near p1 1 0 := by
    refine ⟨0, rfl, by omega, ?_, ?_⟩
    · intro w hw q
      rw [b_0] at q
      cases q
    · intro x hx _
      obtain rfl : x = 0 := by omega
      exact Or.inl rfl
  refine OK_for (2 ^ n) (fun i z => ∃ b, z = (b, nI i) ∧ bestS n near p1 i b) ?_ ?_ F 1 _ hp1 ⟨0, rfl, st⟩ (by omega)
  · rintro k1 z ⟨b, rfl, hb⟩
    dsimp only
    rw [if_pos (nI_le (Nat.le_refl _) (by omega))]
    exact OK_some hb
  · rintro k1 i z hi ⟨b, rfl, hb⟩ hk1
    dsimp only
    rw [if_neg (nI_ge hi (by omega))]
    have hMi : M12 (nI i) := nI_M (by omega)
    have hb' := hb
    obtain ⟨kb, rfl, hkb, hgb, hall⟩ := hb
    have hMb : M12 (nI kb) := nI_M (by omega)
    have hne : nI i ≠ nI kb := fun q => by have := nI_inj (by omega) (by omega) q; omega
    have c1 : m_Mo_count F (nI i) = some (nI (cnt (nI i))) := count_M hMi (by omega)
    have c2 : m_Mo_count F (nI kb) = some (nI (cnt (nI kb))) := count_M hMb (by omega)
    have l1 : cnt (nI i) ≤ 12 := popN_le _ 12
    have l2 : cnt (nI kb) ≤ 12 := popN_le _ 12
    have keep : (goodS n near p1 (nI i) → better (nI kb) (nI i)) → bestS n near p1 (i + 1) (nI kb) := fun q =>
      ⟨kb, rfl, by omega, hgb, lt_s hall (fun hg => Or.inr (q hg))⟩
    have take : goodS n near p1 (nI i) → better (nI i) (nI kb) → bestS n near p1 (i + 1) (nI i) := fun hg q =>
      ⟨i, rfl, by omega, hg, lt_s (fun x hx hgx => Or.inr (by
        rcases hall x hx hgx with r | r
        · rw [r]; exact q
        · exact better_trans q r)) (fun _ => Or.inl rfl)⟩
    refine OK_for n (fun m z => (z = (1, nI m) ∧ ∀ w, w < m → bt (nI i) w = true → rowG n near p1 (nI i) w) ∨ (z = (0, nI m) ∧ ¬ goodS n near p1 (nI i))) ?_ ?_ F 0 _ (by omega) (Or.inl ⟨rfl, fun w hw => by omega⟩) (by omega)
    · rintro k2 z (⟨rfl, hq⟩ | ⟨rfl, hq⟩)
      · dsimp only
        rw [if_pos (nI_le (Nat.le_refl _) (by omega)), gB_eq, gM_s c1, gM_s c2, gB_eq, gB_eq]
        by_cases hlt : cnt (nI kb) < cnt (nI i)
        · rw [if_pos (nI_lt hlt (by omega))]
          try dsimp only
          rw [if_neg (show ¬ (1 : Int32) = 0 by decide), if_neg (show ¬ (1 : Int32) = 0 by decide), gB_eq, nI_1]
          exact hk1 _ ⟨_, rfl, take hq (Or.inl hlt)⟩
        · rw [if_neg (fun q => by
            have e := Int32.lt_iff_toInt_lt.mp q
            rw [nI_toInt (by omega), nI_toInt (by omega)] at e
            omega), gM_s c1, gM_s c2, gB_eq]
          by_cases heq : cnt (nI i) = cnt (nI kb)
          · rw [if_pos (by rw [heq])]
            by_cases hl : lexF (nI i) (nI kb)
            · rw [if_neg (low_lex.mpr hl)]
              try dsimp only
              rw [if_neg (show ¬ (1 : Int32) = 0 by decide), if_neg (show ¬ (1 : Int32) = 0 by decide), gB_eq, nI_1]
              exact hk1 _ ⟨_, rfl, take hq (Or.inr ⟨heq.symm, hl⟩)⟩
            · rw [if_pos (Decidable.byContradiction (fun q => hl (low_lex.mp q)))]
              try dsimp only
              rw [if_neg (show ¬ (1 : Int32) = 0 by decide), if_pos rfl, gB_eq, nI_1]
              refine hk1 _ ⟨_, rfl, keep (fun _ => Or.inr ⟨heq, ?_⟩)⟩
              rcases lexF_or hne with r | r
              · exact absurd r hl
              · exact r
          · rw [if_neg (fun q => heq (nI_inj (by omega) (by omega) q))]
            try dsimp only
            rw [if_neg (show ¬ (1 : Int32) = 0 by decide), if_pos rfl, gB_eq, nI_1]
            exact hk1 _ ⟨_, rfl, keep (fun _ => Or.inl (by omega))⟩
      · dsimp only
        rw [if_pos (nI_le (Nat.le_refl _) (by omega)), gB_eq, gM_s c1, gM_s c2, gB_eq, gB_eq]
        try dsimp only
        have fin : OK (gB (nI i + 1) (fun x3_16 => k1 (nI kb, x3_16))) (fun r => bestS n near p1 (2 ^ n) r) := by
          rw [gB_eq, nI_1]
          exact hk1 _ ⟨_, rfl, keep (fun q => absurd q hq)⟩
        rw [if_pos (show (0 : Int32) = 0 from rfl), if_pos (show (0 : Int32) = 0 from rfl)]
        refine OK_ite (fun _ => fin) (fun _ => ?_)
        rw [gM_s c1, gM_s c2, gB_eq]
        exact OK_ite (fun _ => OK_ite (fun _ => fin) (fun _ => fin)) (fun _ => fin)
    · rintro k2 m z hm (⟨rfl, hq⟩ | ⟨rfl, hq⟩) hk2
      · have yes : (bt (nI i) m = true → rowG n near p1 (nI i) m) → OK (gB (nI m + 1) (fun x5_33 => k2 (1, x5_33))) (fun r => bestS n near p1 (2 ^ n) r) := fun q => by
          rw [gB_eq, nI_1]
          exact hk2 _ (Or.inl ⟨rfl, lt_s hq q⟩)
        have no : bt (nI i) m = true → ¬ rowG n near p1 (nI i) m → OK (gB (nI m + 1) (fun x5_33 => k2 (0, x5_33))) (fun r => bestS n near p1 (2 ^ n) r) := fun q1 q => by
          rw [gB_eq, nI_1]
          exact hk2 _ (Or.inr ⟨rfl, fun g => q (g m hm q1)⟩)
        dsimp only
        rw [if_neg (nI_ge hm (by omega)), gB_eq, gB_eq]
        by_cases hb : bt (nI i) m = true
        · rw [if_pos ((bit_one (nI i) (by omega)).mpr hb)]
          try dsimp only
          rw [if_neg (show ¬ (1 : Int32) = 0 by decide), gB_eq, if_neg (show ¬ (1 : Int32) = 0 by decide)]
          by_cases h0 : p1 = 0
          · subst h0
            rw [if_pos rfl, gC_t (inb_nI (by omega) (by omega)), nI_clamp (by omega), hnr m hm]
            by_cases hr : rowG n near 0 (nI i) m
            · rw [if_pos ((row_0 h hm).mpr hr)]
              exact yes (fun _ => hr)
            · rw [if_neg (fun q => hr ((row_0 h hm).mp q))]
              exact no hb hr
          · rw [if_neg h0, gC_t (inb_nI (by omega) (by omega)), nI_clamp (by omega), hnr m hm]
            have hx := nI_hi hn hi
            by_cases hr : rowG n near p1 (nI i) m
            · rw [if_pos ((row_1 h hm h0 hx).mpr hr)]
              exact yes (fun _ => hr)
            · rw [if_neg (fun q => hr ((row_1 h hm h0 hx).mp q))]
              exact no hb hr
        · rw [if_neg (fun q => hb ((bit_one (nI i) (by omega)).mp q))]
          try dsimp only
          rw [if_neg (show ¬ (1 : Int32) = 0 by decide), gB_eq, if_pos rfl]
          exact yes (fun q => absurd q hb)
      · have fin : OK (gB (nI m + 1) (fun x5_32 => k2 (0, x5_32))) (fun r => bestS n near p1 (2 ^ n) r) := by
          rw [gB_eq, nI_1]
          exact hk2 _ (Or.inr ⟨rfl, hq⟩)
        dsimp only
        rw [if_neg (nI_ge hm (by omega)), gB_eq, gB_eq]
        refine OK_ite (fun _ => ?_) (fun _ => ?_)
        · try dsimp only
          rw [if_pos (show (0 : Int32) = 0 from rfl)]
          exact fin
        · try dsimp only
          rw [if_pos (show (0 : Int32) = 0 from rfl)]
          exact fin
