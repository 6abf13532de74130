/-! PURE, 19: clique and apart, e: grow's walk -/
theorem cnt_one : ∀ v, v < 12 → cnt ((1 : Int32) <<< (nI v &&& 31)) = 1 := by decide +kernel
theorem SF_grow_ok {F : Nat} {fits : Nat → Int32} (hF : 12 < F) : ∀ (d : Nat) (best ch ca : Int32), M12 best → M12 ch → M12 ca → (∀ i, i < 32 → bt ca i = true → bt ch i = false) → 13 ≤ d + cnt ch → OK (m_SF_grow F d best fits (nI (cnt ch)) ch ca) (fun r => M12 r ∧ GS (extS fits ch ca) best r) := by
  intro d
  induction d with
  | zero =>
    intro best ch ca _ _ _ _ h
    have := cnt_le ch
    omega
  | succ d ih =>
    intro best ch ca hMb hMc hMa hd hdc
    have hcc := cnt_le ch
    rw [m_SF_grow]
    refine OK_gBQ (fun J => ∀ b0, M12 b0 → GS (extD fits ch ca 0) best b0 → OK (J b0) (fun r => M12 r ∧ GS (extS fits ch ca) best r)) ?_ ?_
    · intro b0 hM0 hg0
      try dsimp only
      refine OK_for 12 (fun v z => ∃ cv b : Int32, z = (cv, nI v, b) ∧ M12 b ∧ (∀ i, i < 32 → (bt cv i = true ↔ bt ca i = true ∧ v ≤ i)) ∧ GS (extD fits ch ca v) best b) ?_ ?_ F 0 _ (by omega) ⟨ca, b0, rfl, hM0, fun i hi => ⟨fun q => ⟨q, Nat.zero_le _⟩, fun q => q.1⟩, hg0⟩ (by omega)
      · rintro k1 z ⟨cv, b, rfl, hM, hcv, hg⟩
        dsimp only
        rw [if_pos (show (12 : Int32) ≤ nI 12 from nI_le (Nat.le_refl _) (by omega))]
        exact OK_some ⟨hM, GS_iff hg (D_12 hMa)⟩
      · rintro k1 v z hv ⟨cv, b, rfl, hM, hcv, hg⟩ hk1
        have fin : (∀ x, extR fits ch ca v x → cnt x ≤ cnt b) → OK (some b) (fun r => M12 r ∧ GS (extS fits ch ca) best r) := fun q =>
          OK_some ⟨hM, GS_comp hg (Or.inl ⟨rfl, q⟩) (full_DR v) (sep_DR (by omega) hMa hd)⟩
        have hcnt : ∀ s, sub s ca → cnt (ch ||| s) = cnt ch + cnt s := fun s hs => cnt_or (fun i hi hb => by
          cases e : bt s i with
          | false => rfl
          | true => rw [hd i (by omega) (hs i (by omega) e)] at hb; cases hb)
        have hMv : M12 cv := M12_of (fun i h1 h2 => by
          cases e : bt cv i with
          | false => rfl
          | true =>
            have := ((hcv i h2).mp e).1
            rw [M12_bt hMa h1 h2] at this
            cases this)
        have lv := cnt_le cv
        have lb := cnt_le b
        dsimp only
        rw [if_neg (show ¬ (12 : Int32) ≤ nI v from nI_ge (a := v) (b := 12) hv (by omega))]
        by_cases h12 : 12 ≤ cnt ch
        · rw [if_pos (show (12 : Int32) ≤ nI (cnt ch) from nI_le (a := 12) h12 (by omega))]
          refine fin (fun x hx => ?_)
          obtain ⟨s, s1, s2, ⟨w, hw, hb⟩, s4, rfl⟩ := hx
          have hw12 : w < 12 := by
            by_cases q : w < 12
            · exact q
            · have := M12_bt hMa (by omega) hw
              rw [s1 w hw hb] at this
              cases this
          have e1 := hcnt s s1
          have e2 := cnt_pos hw12 hb
          have e3 := cnt_le (ch ||| s)
          omega
        · have eb : bitc b = nI (cnt b) := bitc_M hM
          have ev : bitc cv = nI (cnt cv) := bitc_M hMv
          rw [if_neg (show ¬ (12 : Int32) ≤ nI (cnt ch) from nI_ge (a := cnt ch) (b := 12) (by omega) (by omega)), eb, ev, nI_add']
          by_cases hpr : cnt b < cnt ch + cnt cv
          · rw [if_pos (nI_lt hpr (by omega))]
            by_cases hb : bt cv v = true
            · have hbv := ((hcv v (by omega)).mp hb).1
              rw [if_neg (fun q => by rw [(b_test cv (by omega)).mp q] at hb; cases hb), gB_eq, gC_t (inb_nI (by omega) (by omega)), nI_clamp (by omega)]
              have key : ∀ u, u < 32 → (bt (cv &&& (((1 : Int32) <<< (nI v &&& 31)) ^^^ (-1))) u = true ↔ bt ca u = true ∧ v + 1 ≤ u) := by
                intro u hu
                rw [b_and, b_not _ hu, b_one (by omega) hu, Bool.and_eq_true, hcv u hu]
                by_cases e : u = v
                · simp [e]
                · simp [e]; omega
              have hca : ∀ i, i < 32 → (bt ((cv &&& (((1 : Int32) <<< (nI v &&& 31)) ^^^ (-1))) &&& fits v) i = true ↔ bt ca i = true ∧ v < i ∧ bt (fits v) i = true) := by
                intro i hi
                rw [b_and, Bool.and_eq_true, key i hi]
                exact ⟨fun q => ⟨q.1.1, q.1.2, q.2⟩, fun q => ⟨⟨q.1, q.2.1⟩, q.2.2⟩⟩
              have hc1 : cnt (ch ||| ((1 : Int32) <<< (nI v &&& 31))) = cnt ch + 1 := by
                rw [cnt_or (fun i hi q => by
                  rw [b_one (by omega) (by omega)]
                  by_cases e : i = v
                  · subst e; rw [hd i (by omega) hbv] at q; cases q
                  · simp [e]), cnt_one v hv]
              rw [nI_1, ← hc1]
              refine OK_gM (ih b _ _ hM (M12_of (fun i h1 h2 => ?_)) (M12_of (fun i h1 h2 => ?_)) (fun i hi q => ?_) (by omega)) ?_
              · rw [b_or, M12_bt hMc h1 h2, b_one (by omega) h2]
                simp
                omega
              · cases e : bt ((cv &&& (((1 : Int32) <<< (nI v &&& 31)) ^^^ (-1))) &&& fits v) i with
                | false => rfl
                | true =>
                  have := ((hca i h2).mp e).1
                  rw [M12_bt hMa h1 h2] at this
                  cases this
              · obtain ⟨q1, q2, -⟩ := (hca i hi).mp q
                rw [b_or, hd i hi q1, b_one (by omega) hi]
                simp
                omega
              · rintro r ⟨hMr, hgr⟩
                rw [gB_eq, nI_1]
                refine hk1 _ ⟨_, r, rfl, hMr, key, GS_comp hg (GS_iff hgr (D_call hv hMa hbv hca)) D_step (fun x y hx hy => ?_)⟩
                obtain ⟨s, s1, s2, s3, s4, e⟩ := hy
                exact sep_DR (by omega) hMa hd x y hx ⟨s, s1, s2, ⟨v, by omega, s3⟩, s4, e⟩
            · have hbf : bt cv v = false := by
                cases e : bt cv v with
                | false => rfl
                | true => exact absurd e hb
              have hcf : bt ca v = false := by
                cases e : bt ca v with
                | false => rfl
                | true => exact absurd ((hcv v (by omega)).mpr ⟨e, Nat.le_refl _⟩) hb
              rw [if_pos ((b_test cv (by omega)).mpr hbf), gB_eq, nI_1]
              refine hk1 _ ⟨cv, b, rfl, hM, fun i hi => ?_, GS_iff hg (D_skip (by omega) hcf)⟩
              rw [hcv i hi]
              constructor
              · rintro ⟨q1, q2⟩
                refine ⟨q1, ?_⟩
                by_cases e : i = v
                · subst e; rw [hcf] at q1; cases q1
                · omega
              · rintro ⟨q1, q2⟩; exact ⟨q1, by omega⟩
          · rw [if_neg (fun q => by
              have e := Int32.lt_iff_toInt_lt.mp q
              rw [nI_toInt (by omega), nI_toInt (by omega)] at e
              omega)]
            refine fin (fun x hx => ?_)
            obtain ⟨s, s1, s2, -, s4, rfl⟩ := hx
            have e1 := hcnt s s1
            have e2 : cnt s ≤ cnt cv := cnt_mono (fun i hi q => (hcv i (by omega)).mpr ⟨s1 i (by omega) q, by
              by_cases e : i < v
              · rw [s4 i e] at q; cases q
              · omega⟩)
            omega
    · intro J hJ
      have eb : bitc best = nI (cnt best) := bitc_M hMb
      have lb := cnt_le best
      rw [eb]
      by_cases hle : cnt ch ≤ cnt best
      · rw [if_pos (nI_le hle (by omega))]
        exact hJ best hMb (Or.inl ⟨rfl, fun x hx => by rw [(D_0 x).mpr hx]; exact hle⟩)
      · rw [if_neg (nI_ge (by omega) (by omega))]
        exact hJ ch hMc (Or.inr ⟨(D_0 ch).mp rfl, by omega, fun x hx => Or.inl ((D_0 x).mpr hx)⟩)
