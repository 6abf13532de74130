/-! PURE, 14: greedy, f: both sides -/
theorem lit_ne {o m : Nat} (ho : o < 2 ^ 31) (hm : m < 2 ^ 31) (h : o ≠ m) : ¬ nI o = nI m := fun q => h (nI_inj ho hm q)
/-- the order that the reference keeps -/
def odOK (n : Nat) (near : Nat → Int32) (o : Nat) (s : Nat → Nat) (od : Nat → Int32) : Prop :=
  (o = 0 → ∀ i, i < n → od i = nI i) ∧ (o = 1 → ordBy n (rk1 near) n s ∧ ∀ i, i < n → od i = nI (s i)) ∧ (o = 2 → peelBy n near n s ∧ ∀ i, i < n → od (n - 1 - i) = nI (s i))
def MI (n o i : Nat) (s : Nat → Nat) (ti : Nat → Int32) : Prop := o = 1 → ∀ u, u < n → (ti u = -1 ↔ ∀ j, j < i → s j ≠ u)
theorem od_next {n o i : Nat} {near ti od : Nat → Int32} {s : Nat → Nat} (ho : o < 3) (hi : i < n) (h : odOK n near o s od) (hm : MI n o i s ti) : ∃ b, b < n ∧ od i = nI b ∧ gnx n near o i ti b ∧ (o = 1 → b = s i) := by
  obtain ⟨h0, h1, h2⟩ := h
  obtain rfl | rfl | rfl : o = 0 ∨ o = 1 ∨ o = 2 := by omega
  · exact ⟨i, hi, h0 rfl i hi, Or.inl ⟨rfl, rfl⟩, fun q => by omega⟩
  · obtain ⟨a1, a2⟩ := h1 rfl
    have hb := a1 i hi
    exact ⟨s i, hb.1, a2 i hi, Or.inr (Or.inl ⟨rfl, bestP_iff hb (fun u hu => (hm rfl u hu).symm)⟩), fun _ => rfl⟩
  · obtain ⟨a1, a2⟩ := h2 rfl
    obtain ⟨_, _, hl⟩ := a1 (n - 1 - i) (by omega)
    have e := a2 (n - 1 - i) (by omega)
    have e2 : n - 1 - (n - 1 - i) = i := by omega
    rw [e2] at e
    exact ⟨s (n - 1 - i), hl.2.1, e, Or.inr (Or.inr (Or.inl ⟨rfl, s, a1, rfl⟩)), fun q => by omega⟩
theorem MI_step {n o i b c : Nat} {s : Nat → Nat} {ti : Nat → Int32} (hc : c ≤ 12) (h : MI n o i s ti) (hb : o = 1 → b = s i) : MI n o (i + 1) s (upd ti b (nI c)) := by
  intro h1 u hu
  have e := hb h1
  subst e
  by_cases e : u = s i
  · subst e
    rw [upd_same]
    exact ⟨fun q => absurd q (nm1 (by omega)), fun q => absurd rfl (q i (by omega))⟩
  · rw [upd_ne e, h h1 u hu]
    constructor
    · intro q j hj
      by_cases hji : j = i
      · subst hji; exact Ne.symm e
      · exact q j (by omega)
    · intro q j hj; exact q j (by omega)
theorem Mo_greedy_ok {F n k o : Nat} {t a y z c d : Int32} {tn od io near tail head near2 : Nat → Int32} (h : GR n k near tail head) (hnr : ∀ v, v < n → near2 v = near v) (ho : o < 4) (hF : 40 < F) : OK (m_Mo_greedy F t (nI n) a y z c d near2 tn od io (nI o)) (fun r => ∃ ti se, GRun n near o n ti se ∧ r.1 = bitc se ∧ r.2.1 = 0 ∧ ∀ v, v < 12 → r.2.2.1 v = ti v) := by
  have hn := h.1
  unfold m_Mo_greedy
  rw [if_neg (nI_pos (by omega)), if_pos (show nI o ≤ 3 from nI_le (b := 3) (by omega) (by omega))]
  refine OK_for 12 (fun i z => ∃ (t2 od2 io2 : Nat → Int32), z = (nI i, t2, od2, io2) ∧ ∀ j, j < i → t2 j = -1 ∧ od2 j = nI j ∧ io2 j = 0) ?_ ?_ F 0 _ (by omega) ⟨_, _, _, rfl, fun j hj => by omega⟩ (by omega)
  · rintro k1 z ⟨t2, od2, io2, rfl, h12⟩
    dsimp only
    rw [if_pos (show (12 : Int32) ≤ nI 12 from nI_le (Nat.le_refl _) (by omega))]
    refine OK_gBQ (fun J => ∀ od3 io3 s, odOK n near o s od3 → OK (J od3 io3) (fun r => ∃ ti se, GRun n near o n ti se ∧ r.1 = bitc se ∧ r.2.1 = 0 ∧ ∀ v, v < 12 → r.2.2.1 v = ti v)) ?_ ?_
    · intro od3 io3 s hod
      try dsimp only
      refine OK_for n (fun i z => ∃ (t3 ti : Nat → Int32) (se : Int32), z = (se, nI i, t3) ∧ GRun n near o i ti se ∧ (∀ v, v < 12 → t3 v = ti v) ∧ MI n o i s ti) ?_ ?_ F 0 _ (by omega) ⟨t2, fun _ => -1, 0, rfl, ⟨rfl, rfl⟩, fun v hv => (h12 v hv).1, fun _ u _ => ⟨fun _ j hj => by omega, fun _ => rfl⟩⟩ (by omega)
      · rintro k2 z ⟨t3, ti, se, rfl, hg, ha, -⟩
        obtain ⟨i1, i2, i3⟩ := GRun_inv h n ti se hg
        dsimp only
        rw [if_pos (nI_le (Nat.le_refl _) (by omega)), gM_s (count_M i3 (by omega)), ← bitc_M i3]
        exact OK_some ⟨ti, se, hg, rfl, rfl, ha⟩
      · rintro k2 i z hi ⟨t3, ti, se, rfl, hg, ha, hm⟩ hk2
        obtain ⟨i1, i2, i3⟩ := GRun_inv h i ti se hg
        dsimp only
        rw [if_neg (nI_ge hi (by omega))]
        refine OK_gBQ (fun J => ∀ b, b < n → gnx n near o i ti b → (o = 1 → b = s i) → OK (J (nI b)) (fun r => ∃ ti se, GRun n near o n ti se ∧ r.1 = bitc se ∧ r.2.1 = 0 ∧ ∀ v, v < 12 → r.2.2.1 v = ti v)) ?_ ?_
        · intro b hb hx hbs
          try dsimp only
          obtain ⟨c, hc, hf, e⟩ := lowestOf_free (F := F) (usN_M (nv := near b) n i1)
          have hf2 : freeC (usN (near2 b) t3 n) c := by
            rw [hnr b hb, usN_congr n (fun v hv => ha v (by omega))]; exact hf
          rw [gM_s (Mo_tintNode_ok hn hb hc hf2 hF), gC_t (inb_nI (by omega) (by omega)), gB_eq, gB_eq, nI_1, nI_clamp (by omega), upd_same]
          exact hk2 _ ⟨_, _, _, rfl, ⟨ti, se, b, c, hg, hx, hb, hc, hf, rfl, rfl⟩, agr_upd ha, MI_step hc hm hbs⟩
        · intro J hJ
          by_cases h3 : o = 3
          · subst h3
            rw [if_pos (show nI 3 = 3 from rfl)]
            have ht : ∀ v, v < n → colOK (t3 v) := fun v hv => by rw [ha v (by omega)]; exact i1 v hv
            have hex : ∃ u, u < n ∧ t3 u = -1 := by
              obtain ⟨u, hu, e⟩ := cne_ex (f := ti) (x0 := -1) n (by omega)
              exact ⟨u, hu, by rw [ha u (by omega)]; exact e⟩
            refine OK_gM (Mo_nextByColours_ok h hnr ht hex (by omega)) ?_
            rintro r ⟨b, rfl, hb⟩
            refine hJ b hb.1 (Or.inr (Or.inr (Or.inr ⟨rfl, bestP_rk (bestP_iff hb (fun u hu => by rw [ha u (by omega)])) (fun u hu => ?_)⟩))) (fun q => by omega)
            unfold rk3
            rw [usN_congr n (fun v hv => ha v (by omega))]
          · obtain ⟨b, hb, e, hx, hbs⟩ := od_next (by omega) hi hod hm
            rw [if_neg (show ¬ nI o = 3 from lit_ne (by omega) (m := 3) (by omega) h3), gC_t (inb_nI (by omega) (by omega)), nI_clamp (by omega), e]
            exact hJ b hb hx hbs
    · intro J hJ
      by_cases h1 : o = 1
      · subst h1
        rw [if_pos (show nI 1 = 1 from rfl)]
        refine OK_gM (Mo_orderByNear_ok h hnr (fun v hv => (h12 v (by omega)).2.2) (by omega)) ?_
        rintro ⟨r1, r2⟩ ⟨s, hs⟩
        exact hJ _ _ s ⟨fun q => by omega, fun _ => hs, fun q => by omega⟩
      · rw [if_neg (show ¬ nI o = 1 from lit_ne (by omega) (m := 1) (by omega) h1)]
        by_cases h2 : o = 2
        · subst h2
          rw [if_pos (show nI 2 = 2 from rfl)]
          refine OK_gM (Mo_orderBackwards_ok h hnr (by omega)) ?_
          rintro r ⟨s, hs⟩
          exact hJ _ _ s ⟨fun q => by omega, fun q => by omega, fun _ => hs⟩
        · rw [if_neg (show ¬ nI o = 2 from lit_ne (by omega) (m := 2) (by omega) h2)]
          exact hJ _ _ (fun _ => 0) ⟨fun _ i hi => (h12 i (by omega)).2.1, fun q => by omega, fun q => by omega⟩
  · rintro k1 i z hi ⟨t2, od2, io2, rfl, h12⟩ hk1
    dsimp only
    rw [if_neg (show ¬ (12 : Int32) ≤ nI i from nI_ge (a := i) (b := 12) hi (by omega)), gC_t (inb_nI (by omega) (by omega)), gC_t (inb_nI (by omega) (by omega)), gC_t (inb_nI (by omega) (by omega)), gB_eq, nI_1, nI_clamp (by omega)]
    have e1 : vp_nar .boolean 0 = 0 := rfl
    rw [e1]
    refine hk1 _ ⟨_, _, _, rfl, fun j hj => ?_⟩
    by_cases e : j = i
    · subst e; rw [upd_same, upd_same, upd_same]; exact ⟨rfl, rfl, rfl⟩
    · rw [upd_ne e, upd_ne e, upd_ne e]; exact h12 j (by omega)
theorem CS_greedy_ok {F n k o : Nat} {a v : Int32} {tn pe near tail head : Nat → Int32} (h : GR n k near tail head) (ho : o < 4) (hF : 12 < F) : OK (m_CS_greedy F (nI n) a v near tn pe (nI o)) (fun r => ∃ ti se, GRun n near o n ti se ∧ r.1 = bitc se ∧ ∀ v, v < 12 → r.2.1 v = ti v) := by
  unfold m_CS_greedy
  rw [if_neg (nI_pos (by omega)), if_neg (show ¬ (4 : Int32) ≤ nI o from nI_ge (a := o) (b := 4) ho (by omega))]
  refine OK_gM (Gr_run_ok h ho hF) ?_
  rintro ⟨r1, r2, r3⟩ hr
  exact OK_some hr
theorem CS_greedy_no {F : Nat} {n a v p : Int32} {tn pe near : Nat → Int32} (h : p < 0 ∨ (4 : Int32) ≤ p) : m_CS_greedy F n a v near tn pe p = some (-1, tn, pe) := by
  unfold m_CS_greedy
  rcases h with h | h
  · rw [if_pos h]
  · by_cases h0 : p < 0
    · rw [if_pos h0]
    · rw [if_neg h0, if_pos h]
theorem Mo_greedy_no {F : Nat} {t n a y z c d p : Int32} {tn od io near : Nat → Int32} (h : p < 0 ∨ (4 : Int32) ≤ p) : m_Mo_greedy F t n a y z c d near tn od io p = some (-1, 0, tn, od, io) := by
  unfold m_Mo_greedy
  by_cases h0 : p < 0
  · rw [if_pos h0]
  · rw [if_neg h0, if_neg (fun q => by
      have e := Int32.le_iff_toInt_le.mp q
      have e3 : (3 : Int32).toInt = 3 := by decide
      have e4 : (4 : Int32).toInt = 4 := by decide
      rcases h with h | h
      · exact h0 h
      · have e5 := Int32.le_iff_toInt_le.mp h
        omega)]
