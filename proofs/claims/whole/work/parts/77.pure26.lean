/-! PURE, 26: the reference's search -/
theorem nI_div : ∀ N, N < 17 → ∀ k, k < 13 → ¬ k = 0 → nI N / nI k = nI (N / k) ∧ nI N - nI N / nI k * nI k = nI (N % k) := by decide +kernel
theorem nI_nz {k : Nat} (h : ¬ k = 0) (hk : k < 2 ^ 31) : ¬ nI k = 0 := fun q => h (nI_inj hk (by omega) (q.trans nI_0.symm))
theorem fullN_n (k s : Nat) (u : Nat → Nat) : fullN k s u ≤ k := by
  induction k with
  | zero => exact Nat.le_refl _
  | succ k ih =>
    rw [fullN_s]
    by_cases h : s < u k
    · rw [if_pos h]; omega
    · rw [if_neg h]; omega
theorem Mo_isEven_ok {F N k c : Nat} {t a y z e1 e2 : Int32} {many : Nat → Int32} {u : Nat → Nat} (hN : N ≤ 12) (hk : k ≤ 12) (hk0 : ¬ k = 0) (hc : c < 12) (hm : ∀ d, d < 12 → many d = nI (u d) ∧ u d ≤ 12) (hF : 12 < F) : OK (m_Mo_isEven F t (nI N) a y z e1 e2 many (nI c) (nI k)) (fun r => (r = 1 ∧ (u c < N / k ∨ (u c = N / k ∧ fullN k (N / k) u < N % k))) ∨ (r = 0 ∧ ¬ (u c < N / k ∨ (u c = N / k ∧ fullN k (N / k) u < N % k)))) := by
  have hs : N / k ≤ 12 := Nat.le_trans (Nat.div_le_self _ _) hN
  have ho : N % k < 13 := Nat.lt_of_le_of_lt (Nat.mod_le _ _) (by omega)
  unfold m_Mo_isEven
  rw [gC_t (decide_eq_true (nI_nz hk0 (by omega))), gB_eq, gC_t (decide_eq_true (nI_nz hk0 (by omega))), gB_eq, (nI_div N (by omega) k (by omega) hk0).2, (nI_div N (by omega) k (by omega) hk0).1]
  refine OK_for k (fun i z => z = (nI (fullN i (N / k) u), nI i)) ?_ ?_ F 0 _ (by omega) rfl (by omega)
  · rintro k1 z rfl
    try dsimp only
    have hf := fullN_n k (N / k) u
    rw [if_pos (nI_le (Nat.le_refl _) (by omega)), gC_t (inb_nI (by omega) (by omega)), gB_eq, nI_clamp (by omega), (hm c hc).1]
    have h12 := (hm c hc).2
    by_cases q : u c < N / k
    · rw [if_pos (nI_lt q (by omega))]
      exact OK_some (Or.inl ⟨rfl, Or.inl q⟩)
    · rw [if_neg (nI_nlt (by omega) (by omega)), gC_t (inb_nI (by omega) (by omega))]
      by_cases q2 : u c = N / k
      · rw [if_pos (by rw [q2])]
        by_cases q3 : fullN k (N / k) u < N % k
        · rw [if_neg (nI_ge q3 (by omega))]
          exact OK_some (Or.inl ⟨rfl, Or.inr ⟨q2, q3⟩⟩)
        · rw [if_pos (nI_le (by omega) (by omega))]
          exact OK_some (Or.inr ⟨rfl, fun w => by omega⟩)
      · rw [if_neg (fun w => q2 (nI_inj (by omega) (by omega) w))]
        exact OK_some (Or.inr ⟨rfl, fun w => by omega⟩)
  · rintro k1 i z hi rfl hk1
    try dsimp only
    rw [if_neg (nI_ge hi (by omega)), gC_t (inb_nI (by omega) (by omega)), nI_clamp (by omega), (hm i (by omega)).1]
    have h12 := (hm i (by omega)).2
    by_cases q : u i ≤ N / k
    · rw [if_pos (nI_le q (by omega)), gB_eq, gB_eq, nI_1]
      refine hk1 _ ?_
      rw [fullN_s, if_neg (by omega), show nI (fullN i (N / k) u) + 0 = nI (fullN i (N / k) u) from Int32.add_zero _]
      rfl
    · rw [if_neg (nI_ge (by omega) (by omega)), gB_eq, gB_eq, nI_1, nI_1]
      refine hk1 _ ?_
      rw [fullN_s, if_pos (by omega)]
/-- colour c may stand at node i, the colours below i being f's -/
def AdS (near : Nat → Int32) (n k : Nat) (ev : Prop) (f : Nat → Nat) (i c : Nat) : Prop := c < k ∧ (∀ u, u < i → bt (near i) u = true → ¬ f u = c) ∧ (ev → evA n k f i c) ∧ ∀ d, d < c → ∃ u, u < i ∧ f u = d
theorem AdS_eqB {near : Nat → Int32} {n k : Nat} {ev : Prop} (f g : Nat → Nat) (i c : Nat) (h : eqB f g i) (ha : AdS near n k ev f i c) : AdS near n k ev g i c := by
  obtain ⟨h1, h2, h3, h4⟩ := ha
  refine ⟨h1, fun u hu hb => by rw [← h u hu]; exact h2 u hu hb, fun q => evA_eqB h (h3 q), fun d hd => ?_⟩
  obtain ⟨u, hu, e⟩ := h4 d hd
  exact ⟨u, hu, by rw [← h u hu]; exact e⟩
theorem cntc_le (f : Nat → Nat) (c : Nat) : ∀ i, cntc f c i ≤ i := by
  intro i
  induction i with
  | zero => exact Nat.le_refl _
  | succ i ih =>
    rw [cntc_s]
    by_cases h : f i = c
    · rw [if_pos h]; omega
    · rw [if_neg h]; omega
theorem Mo_search_ok {F n k : Nat} {t a y zz e1 e2 p2 : Int32} {near row many : Nat → Int32} (hn : n ≤ 12) (hk : k ≤ 12) (hk0 : ¬ p2 = 0 → ¬ k = 0) (hF : 40 ^ 18 < F) : OK (m_Mo_search F t (nI n) a y zz e1 e2 near row many (nI k) p2) (fun r => (r.1 = 1 ∧ ∃ f : Nat → Nat, (∀ i, i < n → r.2.1 i = nI (f i)) ∧ Fst n (Rt n (AdS near n k (¬ p2 = 0))) f) ∨ (r.1 = 0 ∧ ∀ g, ¬ Rt n (AdS near n k (¬ p2 = 0)) g)) := by
  have hF12 : 100 < F := by omega
  have hFn : 40 ^ (n + 1) < F := Nat.lt_of_le_of_lt (Nat.pow_le_pow_right (by omega) (by omega)) hF
  unfold m_Mo_search
  refine OK_for 12 (fun i z => ∃ m : Nat → Int32, z = (nI i, m) ∧ ∀ c, c < i → m c = 0) ?_ ?_ F 0 _ (by omega) ⟨many, rfl, fun c hc => by omega⟩ (by omega)
  · rintro k0 z ⟨m0, rfl, hm0⟩
    try dsimp only
    rw [if_pos (show (12 : Int32) ≤ nI 12 from nI_le (Nat.le_refl _) (by omega))]
    generalize hA : AdS near n k (¬ p2 = 0) = A
    have hAe : ∀ f g i c, eqB f g i → A f i c → A g i c := by subst hA; exact AdS_eqB
    refine OK_gLm (fun m z => (∃ (d x : Nat) (r : Nat → Nat) (row many : Nat → Int32), z = (nI d, nI x, row, many) ∧ (∀ i, i < d → row i = nI (r i)) ∧ (∀ c, c < 12 → many c = nI (cntc r c d)) ∧ BI n k A d x r ∧ m + muB n d x r = 40 ^ (n + 1)) ∨ (∃ (x : Int32) (row many : Nat → Int32), z = (-1, x, row, many) ∧ m = 0 ∧ ∀ g, ¬ Rt n A g)) ?_ F (40 ^ (n + 1)) _ (Or.inl ⟨0, 0, fun _ => 0, row, m0, rfl, fun i hi => by omega, fun c hc => hm0 c hc, BI_0 _, by show _ + (0 + 2 * 0 * _) = _; omega⟩) hFn
    intro k1 m z hz hk1
    rcases hz with ⟨d, x, r, row, many, rfl, hrow, hmany, hB, hmu⟩ | ⟨x, row, many, rfl, rfl, hno⟩
    · dsimp only
      obtain ⟨hd, hx, hrk, hra, hall⟩ := id hB
      rw [gB_eq, if_neg (show ¬ nI d < 0 from nI_nlt (a := d) (b := 0) (by omega) (by omega))]
      by_cases hdn : d = n
      · subst hdn
        rw [if_pos (nI_le (Nat.le_refl _) (by omega)), if_pos rfl]
        exact OK_some (Or.inl ⟨rfl, r, hrow, BI_done hB⟩)
      · have hdn' : d < n := by omega
        rw [if_neg (nI_ge hdn' (by omega))]
        have hmb : muB n d x r < 40 ^ (n + 1) := muB_lt hd (by omega) (fun i hi => by have := hrk i hi; omega)
        have back : (∀ c', x ≤ c' → ¬ A r d c') → OK (gB (nI d + (-1)) (fun x3_13 =>
              if x3_13 < 0 then (
                k1 (x3_13, nI x, row, many)
              ) else (
                gC (inb x3_13 12) (
                gC (inb (row x3_13.toNatClampNeg) 12) (
                gC (inb (row x3_13.toNatClampNeg) 12) (
                gC (inb x3_13 12) (
                gB ((row x3_13.toNatClampNeg) + 1) (fun x4_19 =>
                k1 (x3_13, x4_19, row, upd many (row x3_13.toNatClampNeg).toNatClampNeg ((many (row x3_13.toNatClampNeg).toNatClampNeg) - 1)))))))
              ))) (fun r => (r.1 = 1 ∧ ∃ f : Nat → Nat, (∀ i, i < n → r.2.1 i = nI (f i)) ∧ Fst n (Rt n A) f) ∨ (r.1 = 0 ∧ ∀ g, ¬ Rt n A g)) := by
          intro hno
          rw [gB_eq]
          cases d with
          | zero =>
            rw [if_pos (show nI 0 + (-1) < 0 by decide)]
            exact hk1 0 _ (by omega) (Or.inr ⟨_, _, _, rfl, rfl, BI_fail hAe hB hdn' hno⟩)
          | succ d =>
            have hrd := hrk d (by omega)
            rw [← nI_1 d, nI_add0, if_neg (show ¬ nI d < 0 from nI_nlt (a := d) (b := 0) (by omega) (by omega)), gC_t (inb_nI (by omega) (by omega)), nI_clamp (by omega), hrow d (by omega), gC_t (inb_nI (by omega) (by omega)), gC_t (inb_nI (by omega) (by omega)), gC_t (inb_nI (by omega) (by omega)), gB_eq, nI_clamp (by omega), nI_1]
            have hmB := muB_back (N := n) (d := d) (x := x) (r := r) (by omega) (by omega)
            refine hk1 (40 ^ (n + 1) - muB n d (r d + 1) r) _ ?_ (Or.inl ⟨d, r d + 1, r, row, _, rfl, fun i hi => hrow i (by omega), fun c hc => ?_, BI_back hAe hB hdn' hno, ?_⟩)
            · omega
            · by_cases e : c = r d
              · subst e
                rw [upd_same, hmany _ (by omega), cntc_s, if_pos rfl]
                exact nI_sub' (i := 1) (by omega)
              · rw [upd_ne e, hmany _ hc, cntc_s, if_neg (fun w => e w.symm), Nat.add_zero]
            · have := muB_lt (N := n) (d := d) (x := r d + 1) (r := r) (by omega) (by omega) (fun i hi => by have := hrk i (by omega); omega)
              omega
        refine OK_for k (fun c z => z = nI c ∧ x ≤ c ∧ ∀ c', x ≤ c' → c' < c → ¬ A r d c') ?_ ?_ F x _ hx ⟨rfl, Nat.le_refl _, fun c' h1 h2 => by omega⟩ (by omega)
        · rintro k2 z ⟨rfl, hxk, hno⟩
          try dsimp only
          refine OK_gB ?_
          try dsimp only
          rw [if_pos (nI_le (Nat.le_refl _) (by omega))]
          refine OK_gB ?_
          try dsimp only
          refine OK_gB ?_
          try dsimp only
          rw [if_pos (nI_le (Nat.le_refl _) (by omega))]
          refine OK_gB ?_
          try dsimp only
          rw [if_pos (nI_le (Nat.le_refl _) (by omega))]
          refine back (fun c' h1 h2 => ?_)
          by_cases q : c' < k
          · exact hno c' h1 q h2
          · subst hA; exact q h2.1
        · rintro k2 c z hc ⟨rfl, hxc, hno⟩ hk2
          try dsimp only
          refine OK_gB ?_
          try dsimp only
          rw [if_neg (nI_ge hc (by omega))]
          have next : ¬ A r d c → OK (k2 (nI (c + 1))) (fun r => (r.1 = 1 ∧ ∃ f : Nat → Nat, (∀ i, i < n → r.2.1 i = nI (f i)) ∧ Fst n (Rt n A) f) ∨ (r.1 = 0 ∧ ∀ g, ¬ Rt n A g)) := by
            intro q
            refine hk2 _ ⟨rfl, by omega, fun c' h1 h2 => ?_⟩
            by_cases e : c' = c
            · rw [e]; exact q
            · exact hno c' h1 (by omega)
          have fit : fitAt near row d (nI c) ↔ ∀ u, u < d → bt (near d) u = true → ¬ r u = c := by
            have hck : c < 12 := by omega
            constructor
            · intro h u hu hb e
              exact h u hu hb (by rw [hrow u hu, e])
            · intro h u hu hb e
              have := hrk u hu
              exact h u hu hb (nI_inj (by omega) (by omega) (by rw [← hrow u hu]; exact e))
          have newT : newTw row d c ↔ ¬ ∀ e, e < c → ∃ u, u < d ∧ r u = e := by
            constructor
            · rintro ⟨e, he, hn2⟩ h
              obtain ⟨u, hu, e2⟩ := h e he
              exact hn2 u hu (by rw [hrow u hu, e2])
            · intro h
              refine Classical.byContradiction (fun q => h (fun e he => Classical.byContradiction (fun q2 => q ⟨e, he, fun u hu e2 => ?_⟩)))
              have := hrk u hu
              exact q2 ⟨u, hu, nI_inj (by omega) (by omega) (by rw [← hrow u hu]; exact e2)⟩
          have go : (∀ u, u < d → bt (near d) u = true → ¬ r u = c) → (¬ p2 = 0 → evA n k r d c) → OK (gB (α := Int32 → Option (Int32 × (Nat → Int32) × (Nat → Int32))) (fun s_12 =>
            gB (α := Option (Int32 × (Nat → Int32) × (Nat → Int32))) (
              gB (nI d + (-1)) (fun x3_13 =>
              if x3_13 < 0 then (
                k1 (x3_13, nI x, row, many)
              ) else (
                gC (inb x3_13 12) (
                gC (inb (row x3_13.toNatClampNeg) 12) (
                gC (inb (row x3_13.toNatClampNeg) 12) (
                gC (inb x3_13 12) (
                gB ((row x3_13.toNatClampNeg) + 1) (fun x4_19 =>
                k1 (x3_13, x4_19, row, upd many (row x3_13.toNatClampNeg).toNatClampNeg ((many (row x3_13.toNatClampNeg).toNatClampNeg) - 1)))))))
              ))
            ) (fun J_140 =>
            if nI k ≤ nI c then (
              J_140
            ) else (
              if s_12 = 0 then (
                gC (inb (nI d) 12) (
                gC (inb (nI c) 12) (
                gC (inb (nI c) 12) (
                gB (nI d + 1) (fun x3_25 =>
                k1 (x3_25, 0, upd row (nI d).toNatClampNeg (nI c), upd many (nI c).toNatClampNeg ((many (nI c).toNatClampNeg) + 1))))))
              ) else (
                J_140
              )
            )
            )
          ) (fun J_99 =>
          gB (α := Option (Int32 × (Nat → Int32) × (Nat → Int32))) (
            J_99 0
          ) (fun J_98 =>
          if nI k ≤ nI c then (
            J_98
          ) else (
            gM (m_Mo_isNewTwice F t (nI n) a y zz e1 e2 row (nI d) (nI c)) (fun q_27 =>
            if q_27 = 0 then (
              J_98
            ) else (
              J_99 1
            ))
          )
          )
          )) (fun r => (r.1 = 1 ∧ ∃ f : Nat → Nat, (∀ i, i < n → r.2.1 i = nI (f i)) ∧ Fst n (Rt n A) f) ∨ (r.1 = 0 ∧ ∀ g, ¬ Rt n A g)) := by
            intro g1 g2
            refine OK_gB ?_
            try dsimp only
            refine OK_gB ?_
            try dsimp only
            rw [if_neg (nI_ge hc (by omega))]
            refine OK_gM (Mo_newTwice_ok (i := d) (c := c) (by omega) (by omega) (by omega)) ?_
            rintro q (⟨rfl, hq⟩ | ⟨rfl, hq⟩)
            · rw [if_neg (show ¬ (1 : Int32) = 0 by decide)]
              refine OK_gB ?_
              try dsimp only
              rw [if_neg (nI_ge hc (by omega)), if_neg (show ¬ (1 : Int32) = 0 by decide)]
              rw [newT] at hq
              refine back (fun c' h1 h2 => ?_)
              by_cases q : c' < c
              · exact hno c' h1 q h2
              · subst hA
                exact hq (fun e he => h2.2.2.2 e (by omega))
            · rw [if_pos rfl]
              refine OK_gB ?_
              try dsimp only
              rw [if_neg (nI_ge hc (by omega)), if_pos rfl, gC_t (inb_nI (by omega) (by omega)), gC_t (inb_nI (by omega) (by omega)), gC_t (inb_nI (by omega) (by omega)), gB_eq, nI_1, nI_clamp (by omega), nI_clamp (by omega)]
              rw [newT] at hq
              have hq' := Classical.byContradiction hq
              have hac : A r d c := by subst hA; exact ⟨hc, g1, g2, hq'⟩
              have hmB := muB_fwd (N := n) (d := d) (r := r) hxc
              have hmb2 : muB n (d + 1) 0 (setN r d c) < 40 ^ (n + 1) := muB_lt (by omega) (by omega) (fun i hi => by
                by_cases e : i = d
                · rw [e, setN_same]; omega
                · rw [setN_ne e]; have := hrk i (by omega); omega)
              refine hk1 (40 ^ (n + 1) - muB n (d + 1) 0 (setN r d c)) _ (by omega) (Or.inl ⟨d + 1, 0, setN r d c, _, _, rfl, fun i hi => ?_, fun c' hc' => ?_, BI_fwd hAe hB hdn' hc hxc hac hno, by omega⟩)
              · by_cases e : i = d
                · subst e; rw [upd_same, setN_same]
                · rw [upd_ne e, setN_ne e]; exact hrow i (by omega)
              · rw [cntc_s, ← cntc_eqB d (setN_eqB r d c), setN_same]
                by_cases e : c' = c
                · subst e
                  rw [upd_same, hmany _ hc', if_pos rfl, nI_1]
                · rw [upd_ne e, hmany _ hc', if_neg (fun w => e w.symm), Nat.add_zero]
          refine OK_gM (Mo_fits_ok (i := d) (by omega) (by omega)) ?_
          rintro q (⟨rfl, hq⟩ | ⟨rfl, hq⟩)
          · rw [fit] at hq
            rw [if_neg (show ¬ (1 : Int32) = 0 by decide)]
            by_cases hp : p2 = 0
            · rw [if_pos hp]
              exact go hq (fun w => absurd hp w)
            · rw [if_neg hp]
              refine OK_gM (Mo_isEven_ok (u := fun c => cntc r c d) hn hk (hk0 hp) (by omega) (fun c hc => ⟨hmany c hc, Nat.le_trans (cntc_le r c d) (by omega)⟩) (by omega)) ?_
              rintro q (⟨rfl, he⟩ | ⟨rfl, he⟩)
              · rw [if_neg (show ¬ (1 : Int32) = 0 by decide)]
                exact go hq (fun _ => he)
              · rw [if_pos rfl, gB_eq, nI_1]
                exact next (fun w => by subst hA; exact he (w.2.2.1 hp))
          · rw [fit] at hq
            rw [if_pos rfl, gB_eq, nI_1]
            exact next (fun w => by subst hA; exact hq w.2.1)
    · dsimp only
      rw [gB_eq, if_pos (show (-1 : Int32) < 0 by decide), if_neg (fun q => by
        have h1 : (0 : Int32) ≤ nI n := nI_pos' (by omega)
        rw [← q] at h1
        exact absurd h1 (by decide))]
      exact OK_some (Or.inr ⟨rfl, hno⟩)
  · rintro k0 i z hi ⟨m0, rfl, hm0⟩ hk1
    try dsimp only
    rw [if_neg (show ¬ (12 : Int32) ≤ nI i from nI_ge (a := i) (b := 12) hi (by omega)), gC_t (inb_nI (by omega) (by omega)), gB_eq, nI_1, nI_clamp (by omega)]
    refine hk1 _ ⟨_, rfl, fun c hc => ?_⟩
    by_cases e : c = i
    · subst e; exact upd_same _ _ _
    · rw [upd_ne e]; exact hm0 c (by omega)
