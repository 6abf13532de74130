/-! PURE, 41: arcs: how many colours there must be, and that 12 do -/
def atB (tail head : Nat → Int32) (y : Nat) : Nat → Bool := fun i => decide (tail i = nI y ∨ head i = nI y)
theorem atB_iff {tail head : Nat → Int32} {y i : Nat} : atB tail head y i = true ↔ tail i = nI y ∨ head i = nI y := decide_eq_true_iff
/-- arc i joins y and u -/
def joins (tail head : Nat → Int32) (i y u : Nat) : Prop := (tail i = nI y ∧ head i = nI u) ∨ (tail i = nI u ∧ head i = nI y)
theorem joins_uniq {n m : Nat} {near tail head : Nat → Int32} (h : GR n m near tail head) {i j y u : Nat} (hi : i < m) (hj : j < m) (h1 : joins tail head i y u) (h2 : joins tail head j y u) : i = j := by
  obtain ⟨-, -, -, -, h3, h4⟩ := h
  rcases h1 with ⟨a, b⟩ | ⟨a, b⟩ <;> rcases h2 with ⟨c, d⟩ | ⟨c, d⟩
  · exact h3 i j hi hj (a.trans c.symm) (b.trans d.symm)
  · exact h4 i j hi hj (a.trans d.symm) (b.trans c.symm)
  · exact h4 i j hi hj (a.trans d.symm) (b.trans c.symm)
  · exact h3 i j hi hj (a.trans c.symm) (b.trans d.symm)
theorem at_joins {n m : Nat} {near tail head : Nat → Int32} (h : GR n m near tail head) {i y : Nat} (hi : i < m) (hy : y < n) (ha : atB tail head y i = true) : ∃ u, u < n ∧ ¬ u = y ∧ joins tail head i y u ∧ bt (near y) u = true := by
  have hn := h.1
  obtain ⟨a, b, ha1, hb1, hab, e1, e2, e3, e4⟩ := h.2.2.2.1 i hi
  rcases atB_iff.mp ha with w | w
  · have : a = y := nI_inj (by omega) (by omega) (e1.symm.trans w)
    subst this
    exact ⟨b, hb1, fun q => hab q.symm, Or.inl ⟨e1, e2⟩, e3⟩
  · have : b = y := nI_inj (by omega) (by omega) (e2.symm.trans w)
    subst this
    exact ⟨a, ha1, hab, Or.inr ⟨e1, e2⟩, e4⟩
theorem joins_at {tail head : Nat → Int32} {i y u : Nat} (h : joins tail head i y u) : atB tail head y i = true ∧ atB tail head u i = true := by
  rcases h with ⟨a, b⟩ | ⟨a, b⟩
  · exact ⟨atB_iff.mpr (Or.inl a), atB_iff.mpr (Or.inr b)⟩
  · exact ⟨atB_iff.mpr (Or.inr b), atB_iff.mpr (Or.inl a)⟩
theorem at_le_deg {n m : Nat} {near tail head : Nat → Int32} (h : GR n m near tail head) {y : Nat} (hy : y < n) : cP (atB tail head y) m ≤ cP (fun u => bt (near y) u) 12 := by
  have hn := h.1
  obtain ⟨f, hf⟩ := Classical.axiomOfChoice (r := fun (u i : Nat) => u < 12 → bt (near y) u = true → i < m ∧ joins tail head i y u) (fun u => by
    by_cases q : u < 12 ∧ bt (near y) u = true
    · obtain ⟨-, -, -, i, hi, hj⟩ := h.2.2.1 y u (by omega) (by omega) q.2
      exact ⟨i, fun _ _ => ⟨hi, hj⟩⟩
    · exact ⟨0, fun a b => absurd ⟨a, b⟩ q⟩)
  refine cP_pig (h := f) 12 m _ (fun i hi ha => ?_)
  obtain ⟨u, hu, -, hj, hb⟩ := at_joins h hi hy ha
  have := hf u (by omega) hb
  exact ⟨u, by omega, hb, joins_uniq h this.1 hi this.2 hj⟩
theorem deg_le_at {n m : Nat} {near tail head : Nat → Int32} (h : GR n m near tail head) {y : Nat} (hy : y < n) : cP (fun u => bt (near y) u) 12 ≤ cP (atB tail head y) m := by
  have hn := h.1
  obtain ⟨f, hf⟩ := Classical.axiomOfChoice (r := fun (i u : Nat) => ∀ w, w < n → joins tail head i y w → ¬ w = y → u = w) (fun i => by
    by_cases q : ∃ w, w < n ∧ joins tail head i y w ∧ ¬ w = y
    · obtain ⟨w, hw, hj, hwy⟩ := q
      refine ⟨w, fun w' hw' hj' hwy' => ?_⟩
      rcases hj with ⟨a, b⟩ | ⟨a, b⟩ <;> rcases hj' with ⟨c, d⟩ | ⟨c, d⟩
      · exact nI_inj (by omega) (by omega) (b.symm.trans d)
      · exact absurd (nI_inj (by omega) (by omega) (c.symm.trans a)) hwy'
      · exact absurd (nI_inj (by omega) (by omega) (a.symm.trans c)) hwy
      · exact nI_inj (by omega) (by omega) (a.symm.trans c)
    · exact ⟨0, fun w h1 h2 h3 => absurd ⟨w, h1, h2, h3⟩ q⟩)
  refine cP_pig (h := f) m 12 _ (fun u hu hb => ?_)
  obtain ⟨-, hun, huy, i, hi, hj⟩ := h.2.2.1 y u (by omega) (by omega) hb
  exact ⟨i, hi, (joins_at hj).1, hf i u hun hj huy⟩
theorem at_meet {tail head : Nat → Int32} {y i j : Nat} (h1 : atB tail head y i = true) (h2 : atB tail head y j = true) : meetA tail head i j := by
  rcases atB_iff.mp h1 with a | a <;> rcases atB_iff.mp h2 with b | b
  · exact Or.inl (a.trans b.symm)
  · exact Or.inr (Or.inl (a.trans b.symm))
  · exact Or.inr (Or.inr (Or.inl (a.trans b.symm)))
  · exact Or.inr (Or.inr (Or.inr (a.trans b.symm)))
theorem cP_true : ∀ k, cP (fun _ => true) k = k := by
  intro k
  induction k with
  | zero => rfl
  | succ k ih => rw [cP_s, ih, if_pos rfl]
theorem VA_at {tail head : Nat → Int32} {m k y : Nat} {f : Nat → Nat} (h : VA tail head m k f) : cP (atB tail head y) m ≤ k := by
  obtain ⟨g, hg⟩ := Classical.axiomOfChoice (r := fun (c i : Nat) => ∀ i', i' < m → atB tail head y i' = true → f i' = c → i = i') (fun c => by
    by_cases q : ∃ i', i' < m ∧ atB tail head y i' = true ∧ f i' = c
    · obtain ⟨i, hi, ha, hc⟩ := q
      refine ⟨i, fun i' hi' ha' hc' => ?_⟩
      rcases Nat.lt_trichotomy i i' with w | w | w
      · exact absurd (hc.trans hc'.symm) (h.2 i' i hi' w (at_meet ha ha'))
      · exact w
      · exact absurd (hc'.trans hc.symm) (h.2 i i' hi w (at_meet ha' ha))
    · exact ⟨0, fun i' h1 h2 h3 => absurd ⟨i', h1, h2, h3⟩ q⟩)
  have := cP_pig (q := fun _ => true) (h := g) k m (atB tail head y) (fun i hi ha => ⟨f i, h.1 i hi, rfl, hg _ i hi ha rfl⟩)
  rwa [cP_true] at this
theorem mostN_le2 {near : Nat → Int32} {k : Nat} : ∀ n, (∀ y, y < n → cP (fun u => bt (near y) u) 12 ≤ k) → mostN near n ≤ k := by
  intro n
  induction n with
  | zero => intro _; exact Nat.zero_le _
  | succ n ih =>
    intro h
    have h1 := ih (fun y hy => h y (by omega))
    have h2 := h n (by omega)
    rw [← bc_cP, ← popN_bc _ 12 (by omega)] at h2
    rw [mostN_s]; omega
theorem mostN_need {n m k : Nat} {near tail head : Nat → Int32} {f : Nat → Nat} (h : GR n m near tail head) (hf : VA tail head m k f) : mostN near n ≤ k := mostN_le2 n (fun y hy => Nat.le_trans (deg_le_at h hy) (VA_at hf))
theorem cP_or {p q1 q2 : Nat → Bool} : ∀ m, (∀ i, i < m → p i = true → q1 i = true ∨ q2 i = true) → cP p m ≤ cP q1 m + cP q2 m := by
  intro m
  induction m with
  | zero => intro _; exact Nat.zero_le _
  | succ m ih =>
    intro h
    have h1 := ih (fun i hi => h i (by omega))
    rw [cP_s, cP_s, cP_s]
    by_cases q : p m = true
    · rw [if_pos q]
      rcases h m (by omega) q with w | w
      · rw [if_pos w]; omega
      · rw [if_pos w]; omega
    · rw [if_neg q]; omega
theorem cP_rm {p : Nat → Bool} {x : Nat} (hx : p x = true) : ∀ m, x < m → cP (fun i => p i && !decide (i = x)) m + 1 = cP p m := by
  intro m
  induction m with
  | zero => intro h; omega
  | succ m ih =>
    intro h
    rw [cP_s, cP_s]
    by_cases e : m = x
    · subst e
      rw [if_pos hx, if_neg (by show ¬ (p m && !decide (m = m)) = true; rw [decide_eq_true rfl]; cases p m <;> decide)]
      rw [cP_eq m (fun i hi => by show (p i && !decide (i = m)) = p i; rw [decide_eq_false (by omega)]; cases p i <;> rfl)]
    · have := ih (by omega)
      have e' : (p m && !decide (m = x)) = p m := by rw [decide_eq_false e]; cases p m <;> rfl
      rw [e']; omega
theorem cP_one {p : Nat → Bool} : ∀ m, (∀ i j, i < m → j < m → p i = true → p j = true → i = j) → cP p m ≤ 1 := by
  intro m
  induction m with
  | zero => intro _; exact Nat.zero_le _
  | succ m ih =>
    intro h
    rw [cP_s]
    by_cases q : p m = true
    · rw [if_pos q]
      have : cP p m = 0 := by
        refine cP_0 (i := 0) m (Nat.zero_le _) (fun v _ hv => ?_)
        cases hb : p v with
        | false => rfl
        | true => have := h v m (by omega) (by omega) hb q; omega
      omega
    · rw [if_neg q]
      exact ih (fun i j hi hj => h i j (by omega) (by omega))
/-- items taken away one by one, each with room for a colour -/
theorem Pt_greedy {nr : Nat → Nat → Bool} {N : Nat} (hsym : ∀ i j, i < N → j < N → nr i j = true → nr j i = true) (hirr : ∀ i, i < N → ¬ nr i i = true) (hex : ∀ T : Nat → Bool, (∃ i, i < N ∧ T i = true) → ∃ it, it < N ∧ T it = true ∧ cP (fun j => nr it j && T j) N < 12) : ∀ (c : Nat) (T : Nat → Bool), cT T N ≤ c → ∃ g, Pt nr (fun _ _ => true) N 12 T False 0 (fun _ => 0) g := by
  intro c
  induction c with
  | zero =>
    intro T hc
    refine ⟨fun _ => 0, Pt_0 (fun i hi ht => ?_) (fun q => q.elim)⟩
    have := cT_wo (T := T) (T' := fun j => T j && !decide (j = i)) (it := i) N (fun j _ => by
      show (T j && !decide (j = i)) = true ↔ _
      rw [Bool.and_eq_true]
      by_cases e : j = i
      · rw [decide_eq_true e]; exact ⟨fun w => absurd w.2 (by decide), fun w => absurd e w.2⟩
      · rw [decide_eq_false e]; exact ⟨fun w => ⟨w.1, e⟩, fun w => ⟨w.1, rfl⟩⟩) ht
    rw [if_pos hi] at this
    omega
  | succ c ih =>
    intro T hc
    by_cases q : ∃ i, i < N ∧ T i = true
    · obtain ⟨it, hit, hT, hl⟩ := hex T q
      have hw : wo N T (fun j => T j && !decide (j = it)) it := fun j _ => by
        show (T j && !decide (j = it)) = true ↔ _
        rw [Bool.and_eq_true]
        by_cases e : j = it
        · rw [decide_eq_true e]; exact ⟨fun w => absurd w.2 (by decide), fun w => absurd e w.2⟩
        · rw [decide_eq_false e]; exact ⟨fun w => ⟨w.1, e⟩, fun w => ⟨w.1, rfl⟩⟩
      have h1 := cT_wo N hw hT
      rw [if_pos hit] at h1
      refine (Pt_easy (fun q => q) hsym hirr hit hT hw ?_).mpr (ih _ (by omega))
      rw [cP_true]; exact hl
    · exact ⟨fun _ => 0, Pt_0 (fun i hi ht => q ⟨i, hi, ht⟩) (fun q => q.elim)⟩
noncomputable def nrA (tail head : Nat → Int32) : Nat → Nat → Bool := fun i j => @decide (¬ i = j ∧ meetA tail head i j) (Classical.propDecidable _)
theorem nrA_iff {tail head : Nat → Int32} {i j : Nat} : nrA tail head i j = true ↔ ¬ i = j ∧ meetA tail head i j := by
  unfold nrA
  exact @decide_eq_true_iff _ (Classical.propDecidable _)
theorem meet_at {tail head : Nat → Int32} {i j a b : Nat} (e1 : tail i = nI a) (e2 : head i = nI b) (h : meetA tail head i j) : atB tail head a j = true ∨ atB tail head b j = true := by
  rw [atB_iff, atB_iff]
  rcases h with h | h | h | h
  · exact Or.inl (Or.inl (by rw [← h, e1]))
  · exact Or.inl (Or.inr (by rw [← h, e1]))
  · exact Or.inr (Or.inl (by rw [← h, e2]))
  · exact Or.inr (Or.inr (by rw [← h, e2]))
theorem arcs_12 {n m : Nat} {near tail head : Nat → Int32} (h : GR n m near tail head) (hm : m ≤ 16) : ∃ f, VA tail head m 12 f := by
  have hn := h.1
  have hsym : ∀ i j, i < m → j < m → nrA tail head i j = true → nrA tail head j i = true := fun i j _ _ w => nrA_iff.mpr ⟨fun e => (nrA_iff.mp w).1 e.symm, meetA_symm (nrA_iff.mp w).2⟩
  have hirr : ∀ i, i < m → ¬ nrA tail head i i = true := fun i _ w => (nrA_iff.mp w).1 rfl
  have ands : ∀ (p q : Bool), (p && q) = true → p = true ∧ q = true := fun p q w => by rw [Bool.and_eq_true] at w; exact w
  have ex : ∀ (y i : Nat), i < m → atB tail head y i = true → cP (fun j => atB tail head y j && !decide (j = i)) m + 1 = cP (atB tail head y) m := fun y i hi ha => cP_rm ha m hi
  have inx : ∀ (p : Nat → Bool) (i j : Nat), p j = true → ¬ i = j → (p j && !decide (j = i)) = true := fun p i j w e => by rw [w, decide_eq_false (fun z => e z.symm)]; rfl
  have hex : ∀ T : Nat → Bool, (∃ i, i < m ∧ T i = true) → ∃ it, it < m ∧ T it = true ∧ cP (fun j => nrA tail head it j && T j) m < 12 := by
    intro T ⟨i0, hi0, hT0⟩
    by_cases hA : ∀ y, y < n → cP (atB tail head y) m ≤ 6
    · obtain ⟨a, b, ha, hb, hab, e1, e2, e3, e4⟩ := h.2.2.2.1 i0 hi0
      refine ⟨i0, hi0, hT0, ?_⟩
      have h1 := ex a i0 hi0 (atB_iff.mpr (Or.inl e1))
      have h2 := ex b i0 hi0 (atB_iff.mpr (Or.inr e2))
      have h3 := cP_or (p := fun j => nrA tail head i0 j && T j) (q1 := fun j => atB tail head a j && !decide (j = i0)) (q2 := fun j => atB tail head b j && !decide (j = i0)) m (fun j hj w => by
        have w1 := nrA_iff.mp (ands _ _ w).1
        rcases meet_at e1 e2 w1.2 with z | z
        · exact Or.inl (inx _ _ _ z w1.1)
        · exact Or.inr (inx _ _ _ z w1.1))
      have h4 := hA a ha
      have h5 := hA b hb
      omega
    · have hB : ∃ x, x < n ∧ 7 ≤ cP (atB tail head x) m := Classical.byContradiction (fun q => hA (fun y hy => by
        rcases Nat.lt_or_ge 6 (cP (atB tail head y) m) with w | w
        · exact absurd ⟨y, hy, w⟩ q
        · exact w))
      obtain ⟨x, hx, hx7⟩ := hB
      by_cases hns : ∃ i, i < m ∧ T i = true ∧ ¬ atB tail head x i = true
      · obtain ⟨it, hit, hTit, hnx⟩ := hns
        refine ⟨it, hit, hTit, ?_⟩
        obtain ⟨a, b, ha, hb, hab, e1, e2, e3, e4⟩ := h.2.2.2.1 it hit
        have hax : ¬ a = x := fun e => hnx (atB_iff.mpr (Or.inl (by rw [← e]; exact e1)))
        have hbx : ¬ b = x := fun e => hnx (atB_iff.mpr (Or.inr (by rw [← e]; exact e2)))
        have one : ∀ z, z < n → ¬ z = x → cP (fun j => atB tail head x j && atB tail head z j) m ≤ 1 := by
          intro z hz hzx
          refine cP_one m (fun i j hi hj wi wj => ?_)
          obtain ⟨u, hu, hux, hju, -⟩ := at_joins h hi hx (ands _ _ wi).1
          obtain ⟨v, hv, hvx, hjv, -⟩ := at_joins h hj hx (ands _ _ wj).1
          have key : ∀ i u, u < n → joins tail head i x u → atB tail head z i = true → u = z := by
            intro i u hu hju hz2
            rcases atB_iff.mp hz2 with w | w <;> rcases hju with ⟨c, d⟩ | ⟨c, d⟩
            · exact absurd (nI_inj (by omega) (by omega) (w.symm.trans c)) hzx
            · exact nI_inj (by omega) (by omega) (c.symm.trans w)
            · exact nI_inj (by omega) (by omega) (d.symm.trans w)
            · exact absurd (nI_inj (by omega) (by omega) (w.symm.trans d)) hzx
          have e1 := key i u hu hju (ands _ _ wi).2
          have e2 := key j v hv hjv (ands _ _ wj).2
          subst e1; subst e2
          exact joins_uniq h hi hj hju hjv
        have h1 := cP_or (p := fun j => nrA tail head it j && T j) (q1 := fun j => (atB tail head x j && atB tail head a j) || (atB tail head x j && atB tail head b j)) (q2 := fun j => !atB tail head x j && !decide (j = it)) m (fun j hj w => by
          have w1 := nrA_iff.mp (ands _ _ w).1
          by_cases q : atB tail head x j = true
          · refine Or.inl ?_
            rcases meet_at e1 e2 w1.2 with z | z
            · show ((atB tail head x j && atB tail head a j) || _) = true
              rw [q, z]; rfl
            · show (_ || (atB tail head x j && atB tail head b j)) = true
              rw [q, z, Bool.and_true, Bool.or_true]
          · refine Or.inr ?_
            have q' : atB tail head x j = false := by cases hb2 : atB tail head x j with | false => rfl | true => exact absurd hb2 q
            show (!atB tail head x j && !decide (j = it)) = true
            rw [q', decide_eq_false (fun z => w1.1 z.symm)]; rfl)
        have h2 := cP_or (p := fun j => (atB tail head x j && atB tail head a j) || (atB tail head x j && atB tail head b j)) (q1 := fun j => atB tail head x j && atB tail head a j) (q2 := fun j => atB tail head x j && atB tail head b j) m (fun j hj w => by
          have w' : ((atB tail head x j && atB tail head a j) || (atB tail head x j && atB tail head b j)) = true := w
          rw [Bool.or_eq_true] at w'
          exact w')
        have h3 := one a ha hax
        have h4 := one b hb hbx
        have h5 := cP_rm (p := fun j => !atB tail head x j) (x := it) (by
          have q' : atB tail head x it = false := by cases hb2 : atB tail head x it with | false => rfl | true => exact absurd hb2 hnx
          show (!atB tail head x it) = true
          rw [q']; rfl) m hit
        have h6 : cP (atB tail head x) m + cP (fun j => !atB tail head x j) m = m := by
          have : ∀ k, cP (atB tail head x) k + cP (fun j => !atB tail head x j) k = k := by
            intro k
            induction k with
            | zero => rfl
            | succ k ih =>
              rw [cP_s, cP_s]
              cases hb2 : atB tail head x k with
              | false => rw [if_neg (by decide), if_pos (show (!false) = true from rfl)]; omega
              | true => rw [if_pos rfl, if_neg (show ¬ (!true) = true by decide)]; omega
          exact this m
        omega
      · have hall : ∀ i, i < m → T i = true → atB tail head x i = true := fun i hi ht => Classical.byContradiction (fun q => hns ⟨i, hi, ht, q⟩)
        refine ⟨i0, hi0, hT0, ?_⟩
        have h1 := ex x i0 hi0 (hall i0 hi0 hT0)
        have h2 := cP_le (p := fun j => nrA tail head i0 j && T j) (q := fun j => atB tail head x j && !decide (j = i0)) m (fun j hj w => inx _ _ _ (hall j hj (ands _ _ w).2) (nrA_iff.mp (ands _ _ w).1).1)
        have h3 := at_le_deg h hx
        have h4 := cP_n (fun u => bt (near x) u) 12
        omega
  obtain ⟨g, p1, p2, -⟩ := Pt_greedy hsym hirr hex (cT (fun _ => true) m) (fun _ => true) (Nat.le_refl _)
  exact ⟨g, fun i hi => (p1 i hi rfl).1, fun i u hi hu hm2 e => p2 u i (by omega) hi rfl rfl (nrA_iff.mpr ⟨by omega, hm2⟩) e⟩
