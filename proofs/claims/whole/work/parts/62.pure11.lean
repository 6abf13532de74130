/-! PURE, 11: greedy, c: the orders told ahead -/
/-- how many of 0 .. n-1 aren't x0 in f -/
def cne (f : Nat → Int32) (x0 : Int32) : Nat → Nat
  | 0 => 0
  | n + 1 => cne f x0 n + (if f n = x0 then 0 else 1)
theorem cne_s (f : Nat → Int32) (x0 : Int32) (n : Nat) : cne f x0 (n + 1) = cne f x0 n + (if f n = x0 then 0 else 1) := rfl
theorem cne_ex {f : Nat → Int32} {x0 : Int32} : ∀ n, cne f x0 n < n → ∃ u, u < n ∧ f u = x0
  | 0, h => by omega
  | n + 1, h => by
    by_cases h1 : f n = x0
    · exact ⟨n, by omega, h1⟩
    · rw [cne_s, if_neg h1] at h
      obtain ⟨u, hu, e⟩ := cne_ex (f := f) (x0 := x0) n (by omega)
      exact ⟨u, by omega, e⟩
theorem cne_upd {f : Nat → Int32} {x0 x : Int32} {b : Nat} : ∀ n, cne (upd f b x) x0 n ≤ cne f x0 n + 1 ∧ (n ≤ b → cne (upd f b x) x0 n = cne f x0 n)
  | 0 => ⟨Nat.zero_le _, fun _ => rfl⟩
  | n + 1 => by
    obtain ⟨h1, h2⟩ := cne_upd (f := f) (x0 := x0) (x := x) (b := b) n
    rw [cne_s, cne_s]
    by_cases hb : n = b
    · have e := h2 (by omega)
      subst hb
      rw [e, upd_same]
      constructor
      · split <;> split <;> omega
      · intro q; omega
    · rw [upd_ne hb]
      constructor
      · omega
      · intro q; rw [h2 (by omega)]
theorem cne_0 {f : Nat → Int32} {x0 : Int32} : ∀ n, (∀ u, u < n → f u = x0) → cne f x0 n = 0
  | 0, _ => rfl
  | n + 1, h => by rw [cne_s, cne_0 n (fun u hu => h u (by omega)), if_pos (h n (by omega))]
/-- an order: each next one is the best of those that aren't in it yet -/
def ordBy (n : Nat) (rk : Nat → Nat) (k : Nat) (s : Nat → Nat) : Prop := ∀ i, i < k → bestP (fun u => ∀ j, j < i → s j ≠ u) rk n (s i)
theorem ordBy_uniq {n : Nat} {rk : Nat → Nat} {s1 s2 : Nat → Nat} : ∀ k, ordBy n rk k s1 → ordBy n rk k s2 → ∀ i, i < k → s1 i = s2 i
  | 0, _, _, i, hi => by omega
  | k + 1, h1, h2, i, hi => by
    have ih := ordBy_uniq (n := n) (rk := rk) (s1 := s1) (s2 := s2) k (fun i hi => h1 i (by omega)) (fun i hi => h2 i (by omega))
    by_cases hik : i = k
    · subst hik
      have a := h1 i hi
      have b := h2 i hi
      have e : (fun u => ∀ j, j < i → s1 j ≠ u) = (fun u => ∀ j, j < i → s2 j ≠ u) := by
        funext u
        apply propext
        constructor
        · intro q j hj; rw [← ih j hj]; exact q j hj
        · intro q j hj; rw [ih j hj]; exact q j hj
      rw [e] at a
      exact bestP_uniq a b
    · exact ih i (by omega)
theorem bestP_iff {P P' : Nat → Prop} {rk : Nat → Nat} {i v : Nat} (h : bestP P rk i v) (e : ∀ u, u < i → (P u ↔ P' u)) : bestP P' rk i v :=
  ⟨h.1, (e v h.1).mp h.2.1, fun u hu hp => h.2.2 u hu ((e u hu).mpr hp)⟩
theorem Mo_orderByNear_ok {F n k : Nat} {t a y z c d : Int32} {near tail head near2 od out : Nat → Int32} (h : GR n k near tail head) (hnr : ∀ v, v < n → near2 v = near v) (ho : ∀ v, v < n → out v = 0) (hF : 12 < F) : OK (m_Mo_orderByNear F t (nI n) a y z c d near2 od out) (fun r => ∃ s, ordBy n (rk1 near) n s ∧ ∀ i, i < n → r.1 i = nI (s i)) := by
  have hn := h.1
  unfold m_Mo_orderByNear
  refine OK_for n (fun i z => ∃ (od2 out2 : Nat → Int32) (s : Nat → Nat), z = (nI i, od2, out2) ∧ ordBy n (rk1 near) i s ∧ (∀ j, j < i → od2 j = nI (s j)) ∧ (∀ u, u < n → (out2 u = 0 ↔ ∀ j, j < i → s j ≠ u)) ∧ cne out2 0 n ≤ i) ?_ ?_ F 0 _ (by omega) ⟨od, out, fun _ => 0, rfl, fun i hi => by omega, fun j hj => by omega, fun u hu => ⟨fun _ j hj => by omega, fun _ => ho u hu⟩, by rw [cne_0 n ho]; omega⟩ (by omega)
  · rintro k1 z ⟨od2, out2, s, rfl, h1, h2, -, -⟩
    dsimp only
    rw [if_pos (nI_le (Nat.le_refl _) (by omega))]
    exact OK_some ⟨s, h1, h2⟩
  · rintro k1 i z hi ⟨od2, out2, s, rfl, h1, h2, h3, h4⟩ hk1
    dsimp only
    rw [if_neg (nI_ge hi (by omega))]
    obtain ⟨u0, hu0, hu1⟩ := cne_ex (f := out2) (x0 := 0) n (by omega)
    refine OK_for n (fun m z => (z = (-1, nI m) ∧ ∀ u, u < m → ¬ out2 u = 0) ∨ ∃ b, z = (nI b, nI m) ∧ bestP (fun u => out2 u = 0) (rk1 near) m b) ?_ ?_ F 0 _ (by omega) (Or.inl ⟨rfl, fun u hu => by omega⟩) (by omega)
    · rintro k2 z (⟨rfl, hq⟩ | ⟨b, rfl, hb⟩)
      · exact absurd hu1 (hq u0 hu0)
      · have hbn := hb.1
        dsimp only
        rw [if_pos (nI_le (Nat.le_refl _) (by omega)), gC_t (inb_nI (by omega) (by omega)), gC_t (inb_nI (by omega) (by omega)), gB_eq, nI_1, nI_clamp (by omega), nI_clamp (by omega)]
        have e1 : vp_nar .boolean 1 = 1 := rfl
        rw [e1]
        have hsub : ∀ j, j < i → (fun q => if q = i then b else s q) j = s j := fun j hj => if_neg (by omega)
        have hsi : (fun q => if q = i then b else s q) i = b := if_pos rfl
        refine hk1 _ ⟨_, _, (fun q => if q = i then b else s q), rfl, ?_, ?_, ?_, ?_⟩
        · intro m hm
          by_cases hmi : m = i
          · subst hmi
            rw [hsi]
            refine bestP_iff hb (fun u hu => ?_)
            rw [h3 u hu]
            constructor
            · intro q j hj; rw [hsub j hj]; exact q j hj
            · intro q j hj; have := q j hj; rw [hsub j hj] at this; exact this
          · rw [hsub m (by omega)]
            refine bestP_iff (h1 m (by omega)) (fun u hu => ?_)
            constructor
            · intro q j hj; rw [hsub j (by omega)]; exact q j hj
            · intro q j hj; have := q j hj; rw [hsub j (by omega)] at this; exact this
        · intro j hj
          by_cases hji : j = i
          · subst hji; rw [upd_same, hsi]
          · rw [upd_ne hji, hsub j (by omega)]; exact h2 j (by omega)
        · intro u hu
          by_cases hub : u = b
          · subst hub
            rw [upd_same]
            constructor
            · intro q; exact absurd q (by decide)
            · intro q; exact absurd hsi (q i (by omega))
          · rw [upd_ne hub, h3 u hu]
            constructor
            · intro q j hj
              by_cases hji : j = i
              · subst hji; rw [hsi]; exact Ne.symm hub
              · rw [hsub j (by omega)]; exact q j (by omega)
            · intro q j hj
              have := q j (by omega)
              rw [hsub j hj] at this
              exact this
        · have := (cne_upd (f := out2) (x0 := 0) (x := 1) (b := b) n).1
          omega
    · rintro k2 m z hm (⟨rfl, hq⟩ | ⟨b, rfl, hb⟩) hk2
      · dsimp only
        rw [if_neg (nI_ge hm (by omega)), gC_t (inb_nI (by omega) (by omega)), nI_clamp (by omega)]
        by_cases hz : out2 m = 0
        · rw [if_pos hz, gB_eq, if_pos rfl, gB_eq, nI_1]
          exact hk2 _ (Or.inr ⟨m, rfl, bestP_first hq hz⟩)
        · rw [if_neg hz, gB_eq, nI_1]
          exact hk2 _ (Or.inl ⟨rfl, lt_s hq hz⟩)
      · have hbm := hb.1
        dsimp only
        rw [if_neg (nI_ge hm (by omega)), gC_t (inb_nI (by omega) (by omega)), nI_clamp (show m < 2 ^ 31 by omega)]
        by_cases hz : out2 m = 0
        · rw [if_pos hz, gB_eq, if_neg (nm1 (by omega)), gC_t (inb_nI (by omega) (by omega)), hnr m hm, gM_s (count_M (GR_M12 h (by omega)) hF), gC_t (inb_nI (by omega) (by omega)), nI_clamp (show b < 2 ^ 31 by omega), hnr b (by omega), gM_s (count_M (GR_M12 h (by omega)) hF)]
          have r1 := rk1_le near m
          have r2 := rk1_le near b
          unfold rk1 at r1 r2
          by_cases hle : popN (near m).toBitVec.toNat 12 ≤ popN (near b).toBitVec.toNat 12
          · rw [if_pos (nI_le hle (by omega)), gB_eq, nI_1]
            exact hk2 _ (Or.inr ⟨b, rfl, bestP_skip hb (fun _ => hle)⟩)
          · rw [if_neg (nI_ge (by omega) (by omega)), gB_eq, nI_1]
            exact hk2 _ (Or.inr ⟨m, rfl, bestP_new hb hz (by unfold rk1; omega)⟩)
        · rw [if_neg hz, gB_eq, nI_1]
          exact hk2 _ (Or.inr ⟨b, rfl, bestP_skip hb (fun q => absurd q hz)⟩)
