/-! PURE, 5: taking apart -/
/-- the lowest below n with P -/
noncomputable def lowP (P : Nat → Prop) : Nat → Option Nat
  | 0 => none
  | n + 1 => match lowP P n with
    | some v => some v
    | none => @ite _ (P n) (Classical.propDecidable _) (some n) none
theorem lowP_none {P : Nat → Prop} : ∀ n, (∀ u, u < n → ¬ P u) → lowP P n = none
  | 0, _ => rfl
  | n + 1, h => by
    unfold lowP
    rw [lowP_none n (fun u hu => h u (by omega))]
    exact if_neg (h n (by omega))
theorem lowP_some {P : Nat → Prop} {v : Nat} (hv : P v) (hl : ∀ u, u < v → ¬ P u) : ∀ n, v < n → lowP P n = some v
  | 0, h => by omega
  | n + 1, h => by
    unfold lowP
    by_cases hvn : v = n
    · subst hvn
      rw [lowP_none v hl]
      exact if_pos hv
    · rw [lowP_some hv hl n (by omega)]
theorem lowP_cases (P : Nat → Prop) (n : Nat) : (lowP P n = none ∧ ∀ u, u < n → ¬ P u) ∨ ∃ v, v < n ∧ P v ∧ (∀ u, u < v → ¬ P u) ∧ lowP P n = some v := by
  by_cases h : ∃ v, v < n ∧ P v
  · obtain ⟨v, ⟨h1, h2⟩, h3⟩ := pk_least (fun v => v < n ∧ P v) h
    have h4 : ∀ u, u < v → ¬ P u := fun u hu q => h3 u hu ⟨by omega, q⟩
    exact Or.inr ⟨v, h1, h2, h4, lowP_some h2 h4 n h1⟩
  · have h4 : ∀ u, u < n → ¬ P u := fun u hu q => h ⟨u, hu, q⟩
    exact Or.inl ⟨lowP_none n h4, h4⟩
def clq1 (near : Nat → Int32) (s : Int32) (v : Nat) : Prop := bt s v = true → ∀ u, u < 32 → bt s u = true → u ≠ v → bt (near v) u = true
def clq (n : Nat) (near : Nat → Int32) (s : Int32) : Prop := ∀ v, v < n → clq1 near s v
theorem clq1_cls {near : Nat → Int32} {s : Int32} {v : Nat} (hv : v < 32) (h1 : bt s v = true) (h2 : bt (near v) v = false) : (s &&& (near v ^^^ (-1))) = ((1 : Int32) <<< (nI v &&& 31)) ↔ clq1 near s v := by
  constructor
  · intro h _ u hu hs hne
    have e : bt (s &&& (near v ^^^ (-1))) u = bt ((1 : Int32) <<< (nI v &&& 31)) u := by rw [h]
    rw [b_and, b_not _ hu, b_one hv hu, hs] at e
    simp [hne] at e
    exact e
  · intro h
    apply b_ext
    intro u hu
    rw [b_and, b_not _ hu, b_one hv hu]
    by_cases huv : u = v
    · subst huv; rw [h1, h2]; simp
    · cases hs : bt s u with
      | false => simp [huv]
      | true => rw [h h1 u hu hs huv]; simp [huv]
theorem clq1_ref {near : Nat → Int32} {s : Int32} {v : Nat} (hv : v < 32) (h1 : bt s v = true) : ((s &&& (near v ^^^ (-1))) &&& (((1 : Int32) <<< (nI v &&& 31)) ^^^ (-1))) = 0 ↔ clq1 near s v := by
  rw [b_eq0]
  constructor
  · intro h _ u hu hs hne
    have e := h u hu
    rw [b_and, b_and, b_not _ hu, b_not _ hu, b_one hv hu, hs] at e
    simp [hne] at e
    exact e
  · intro h u hu
    rw [b_and, b_and, b_not _ hu, b_not _ hu, b_one hv hu]
    by_cases huv : u = v
    · subst huv; simp
    · cases hs : bt s u with
      | false => simp
      | true => rw [h h1 u hu hs huv]; simp
theorem Net_allNear_ok {F n k : Nat} {a v s : Int32} {near tail head : Nat → Int32} (h : GR n k near tail head) (hF : 12 < F) : OK (m_Net_allNear F (nI n) a v near s) (fun r => (r = 1 ∧ clq n near s) ∨ (r = 0 ∧ ¬ clq n near s)) := by
  have hn := h.1
  have hirr : ∀ v, v < n → bt (near v) v = false := by
    intro v hv
    cases hb : bt (near v) v with
    | false => rfl
    | true => exact absurd rfl (h.2.2.1 v v (by omega) (by omega) hb).2.2.1
  unfold m_Net_allNear
  refine OK_for n (fun i z => z = nI i ∧ ∀ v, v < i → clq1 near s v) ?_ ?_ F 0 0 (by omega) ⟨rfl, fun v hv => by omega⟩ (by omega)
  · rintro k1 z ⟨rfl, hc⟩
    rw [if_pos (nI_le (Nat.le_refl _) (by omega))]
    exact OK_some (Or.inl ⟨rfl, hc⟩)
  · rintro k1 i z hi ⟨rfl, hc⟩ hk1
    rw [if_neg (nI_ge hi (by omega))]
    cases hb : bt s i with
    | false =>
      rw [if_pos ((b_test _ (by omega)).mpr hb), gB_eq, nI_1]
      refine hk1 _ ⟨rfl, lt_s hc (fun q => by rw [hb] at q; cases q)⟩
    | true =>
      rw [if_neg (fun q => by rw [(b_test _ (by omega)).mp q] at hb; cases hb), gC_t (inb_nI (by omega) (by omega)), nI_clamp (by omega)]
      refine OK_ite (fun q => ?_) (fun q => ?_)
      · rw [gB_eq, nI_1]
        exact hk1 _ ⟨rfl, lt_s hc ((clq1_cls (by omega) hb (hirr i hi)).mp q)⟩
      · exact OK_some (Or.inr ⟨rfl, fun c => q ((clq1_cls (by omega) hb (hirr i hi)).mpr (c i hi))⟩)
def loose (n : Nat) (near : Nat → Int32) (rem : Int32) (v : Nat) : Prop := bt rem v = true ∧ clq n near (near v &&& rem)
theorem TA_lowestLoose_ok {F n k : Nat} {co a v rem : Int32} {near tail head : Nat → Int32} (h : GR n k near tail head) (hF : 12 < F) : m_TA_lowestLoose F co rem (nI n) a v near = some (match lowP (loose n near rem) n with | some v => nI v | none => -1) := by
  have hn := h.1
  refine OK_eq ?_
  unfold m_TA_lowestLoose
  refine OK_for n (fun i z => z = nI i ∧ ∀ v, v < i → ¬ loose n near rem v) ?_ ?_ F 0 0 (by omega) ⟨rfl, fun v hv => by omega⟩ (by omega)
  · rintro k1 z ⟨rfl, hc⟩
    rw [if_pos (nI_le (Nat.le_refl _) (by omega)), lowP_none n hc]
    exact OK_some rfl
  · rintro k1 i z hi ⟨rfl, hc⟩ hk1
    rw [if_neg (nI_ge hi (by omega))]
    cases hb : bt rem i with
    | false =>
      rw [if_pos ((b_test _ (by omega)).mpr hb), gB_eq, nI_1]
      exact hk1 _ ⟨rfl, lt_s hc (fun q => by have q1 := q.1; rw [hb] at q1; cases q1)⟩
    | true =>
      rw [if_neg (fun q => by rw [(b_test _ (by omega)).mp q] at hb; cases hb), gC_t (inb_nI (by omega) (by omega)), nI_clamp (by omega)]
      refine OK_gM (Net_allNear_ok h hF) (fun r hr => ?_)
      rcases hr with ⟨rfl, hq⟩ | ⟨rfl, hq⟩
      · rw [if_neg (by decide), lowP_some ⟨hb, hq⟩ hc n hi]
        exact OK_some rfl
      · rw [if_pos rfl, gB_eq, nI_1]
        exact hk1 _ ⟨rfl, lt_s hc (fun q => hq q.2)⟩
/-- up to f steps of taking apart -/
noncomputable def tkn (n : Nat) (near : Nat → Int32) : Nat → Int32 → Nat → (Nat → Int32) → Int32 × Nat × (Nat → Int32)
  | 0, rem, cnt, sq => (rem, cnt, sq)
  | f + 1, rem, cnt, sq => match lowP (loose n near rem) n with
    | none => (rem, cnt, sq)
    | some v => tkn n near f (rem &&& (((1 : Int32) <<< (nI v &&& 31)) ^^^ (-1))) (cnt + 1) (upd sq cnt (nI v))
theorem tkn_none {n f cnt : Nat} {near : Nat → Int32} {rem : Int32} {sq : Nat → Int32} (h : lowP (loose n near rem) n = none) : tkn n near f rem cnt sq = (rem, cnt, sq) := by
  cases f with
  | zero => rfl
  | succ f => unfold tkn; rw [h]
theorem tkn_some {n f cnt v : Nat} {near : Nat → Int32} {rem : Int32} {sq : Nat → Int32} (h : lowP (loose n near rem) n = some v) : tkn n near (f + 1) rem cnt sq = tkn n near f (rem &&& (((1 : Int32) <<< (nI v &&& 31)) ^^^ (-1))) (cnt + 1) (upd sq cnt (nI v)) := by
  rw [tkn, h]
theorem TA_run_ok {F n k : Nat} {co re a v : Int32} {sq near tail head : Nat → Int32} (h : GR n k near tail head) (hF : 12 < F) : m_TA_run F co re sq (nI n) a v near = some (nI (tkn n near n (((1 : Int32) <<< (nI n &&& 31)) - 1) 0 sq).2.1, (tkn n near n (((1 : Int32) <<< (nI n &&& 31)) - 1) 0 sq).1, (tkn n near n (((1 : Int32) <<< (nI n &&& 31)) - 1) 0 sq).2.2) := by
  have hn := h.1
  refine OK_eq ?_
  unfold m_TA_run m_Net_everyNode
  rw [gM_s rfl]
  refine OK_for n (fun i z => ∃ (rem : Int32) (s2 : Nat → Int32), z = (nI i, nI i, rem, s2) ∧ tkn n near (n - i) rem i s2 = tkn n near n (((1 : Int32) <<< (nI n &&& 31)) - 1) 0 sq) ?_ ?_ F 0 _ (by omega) ⟨_, _, rfl, by rw [Nat.sub_zero]⟩ (by omega)
  · rintro k1 z ⟨rem, s2, rfl, e⟩
    dsimp only
    rw [if_pos (nI_le (Nat.le_refl _) (by omega)), ← e, Nat.sub_self]
    exact OK_some rfl
  · rintro k1 i z hi ⟨rem, s2, rfl, e⟩ hk1
    dsimp only
    rw [if_neg (nI_ge hi (by omega)), gM_s (TA_lowestLoose_ok h hF)]
    rcases lowP_cases (loose n near rem) n with ⟨e2, -⟩ | ⟨w, hw, -, -, e2⟩
    · rw [e2, if_pos rfl, ← e, tkn_none e2]
      exact OK_some rfl
    · rw [e2]
      dsimp only
      rw [if_neg (fun q => by
        have h9 : nI w < 0 := by rw [q]; decide
        exact nI_pos (by omega) h9), gC_t (inb_nI (by omega) (by omega)), gB_eq, gB_eq, gB_eq, nI_1, nI_clamp (by omega)]
      refine hk1 _ ⟨_, _, rfl, ?_⟩
      rw [← e, show n - i = (n - (i + 1)) + 1 by omega, tkn_some e2]
/-- how many of 0 .. n-1 are in x -/
def bc (x : Int32) : Nat → Nat
  | 0 => 0
  | n + 1 => bc x n + (if bt x n = true then 1 else 0)
theorem bc_s (x : Int32) (n : Nat) : bc x (n + 1) = bc x n + (if bt x n = true then 1 else 0) := rfl
theorem bc_congr {x y : Int32} : ∀ n, (∀ v, v < n → bt x v = bt y v) → bc x n = bc y n
  | 0, _ => rfl
  | n + 1, h => by rw [bc_s, bc_s, bc_congr n (fun v hv => h v (by omega)), h n (by omega)]
theorem bc_le (x : Int32) : ∀ n, bc x n ≤ n
  | 0 => Nat.le_refl 0
  | n + 1 => by
    have := bc_le x n
    rw [bc_s]
    by_cases h : bt x n = true
    · rw [if_pos h]; omega
    · rw [if_neg h]; omega
theorem bt_rm {x : Int32} {v u : Nat} (hv : v < 32) (hu : u < 32) : bt (x &&& (((1 : Int32) <<< (nI v &&& 31)) ^^^ (-1))) u = (bt x u && !decide (u = v)) := by
  rw [b_and, b_not _ hu, b_one hv hu]
theorem bc_rm {x : Int32} {v : Nat} (hx : bt x v = true) : ∀ n, n ≤ 32 → v < n → bc x n = bc (x &&& (((1 : Int32) <<< (nI v &&& 31)) ^^^ (-1))) n + 1
  | 0, _, h => by omega
  | n + 1, hn, h => by
    rw [bc_s, bc_s]
    by_cases hvn : v = n
    · subst hvn
      rw [if_pos hx, bt_rm (by omega) (by omega), hx]
      have : bc x v = bc (x &&& (((1 : Int32) <<< (nI v &&& 31)) ^^^ (-1))) v := bc_congr v (fun u hu => by
        rw [bt_rm (by omega) (by omega)]
        simp [show u ≠ v by omega])
      rw [this]
      simp
    · rw [bc_rm hx n (by omega) (by omega), bt_rm (by omega) (by omega)]
      simp [show n ≠ v by omega]
      omega
theorem bc_0 {x : Int32} : ∀ n, bc x n = 0 → ∀ v, v < n → bt x v = false
  | 0, _, v, hv => by omega
  | n + 1, h, v, hv => by
    rw [bc_s] at h
    by_cases hvn : v = n
    · subst hvn
      cases hb : bt x v with
      | false => rfl
      | true => rw [if_pos hb] at h; omega
    · exact bc_0 n (by omega) v (by omega)
/-- the reference's step over one node: is it loose? (the loop over m, any continuation) -/
theorem Mo_chordal_ok {F n k : Nat} {t a y z c d : Int32} {sq near tail head near2 : Nat → Int32} (h : GR n k near tail head) (hnr : ∀ v, v < n → near2 v = near v) (hF : 40 < F) : OK (m_Mo_chordal F t (nI n) a y z c d near2 sq) (fun r => ∃ T, T = tkn n near n (((1 : Int32) <<< (nI n &&& 31)) - 1) 0 sq ∧ r = (if T.1 = 0 then 1 else 0, 0, nI T.2.1, T.1, T.2.2)) := by
  have hn := h.1
  unfold m_Mo_chordal
  rw [gB_eq]
  have hev : ∀ i, i < 32 → bt (((1 : Int32) <<< (nI n &&& 31)) - 1) i = decide (i < n) := b_full n (by omega)
  generalize hT : tkn n near n (((1 : Int32) <<< (nI n &&& 31)) - 1) 0 sq = T
  refine OK_gL (fun z => ∃ (rem : Int32) (cnt f : Nat) (s2 : Nat → Int32), bc rem n ≤ f ∧ cnt + f ≤ n ∧ ((z = (rem, 1, nI cnt, s2) ∧ tkn n near f rem cnt s2 = T) ∨ (z = (rem, 0, nI cnt, s2) ∧ (rem, cnt, s2) = T))) (fun z => 2 * bc z.1 n + (if z.2.1 = 0 then 0 else 1)) ?_ F _ ⟨_, 0, n, sq, bc_le _ n, by omega, Or.inl ⟨rfl, hT⟩⟩ ?_
  · rintro k1 z ⟨rem, cnt, f, s2, hbf, hcf, ho⟩ hk1
    rcases ho with ⟨rfl, hTT⟩ | ⟨rfl, hTT⟩
    · dsimp only
      rw [if_neg (by decide)]
      refine OK_gL (fun z => (∃ i, i ≤ n ∧ z = (rem, 0, nI i, nI cnt, s2) ∧ ∀ v, v < i → ¬ loose n near rem v) ∨ (∃ w, w < n ∧ z = (rem &&& (((1 : Int32) <<< (nI w &&& 31)) ^^^ (-1)), 1, nI (w + 1), nI (cnt + 1), upd s2 cnt (nI w)) ∧ loose n near rem w ∧ ∀ u, u < w → ¬ loose n near rem u)) (fun z => (n + 1) - z.2.2.1.toNatClampNeg) ?_ F _ (Or.inl ⟨0, by omega, rfl, fun v hv => by omega⟩) (by dsimp only; omega)
      have found : ∀ w, w < n → loose n near rem w → (∀ u, u < w → ¬ loose n near rem u) → OK (k1 (rem &&& (((1 : Int32) <<< (nI w &&& 31)) ^^^ (-1)), 1, nI (cnt + 1), upd s2 cnt (nI w))) (fun r => ∃ T', T' = T ∧ r = (if T'.1 = 0 then 1 else 0, 0, nI T'.2.1, T'.1, T'.2.2)) := by
        intro w hw hl hu
        have hb := bc_rm hl.1 n (by omega) hw
        refine hk1 _ ⟨_, cnt + 1, f - 1, _, by omega, by omega, Or.inl ⟨rfl, ?_⟩⟩ ?_
        · rw [← hTT, show f = (f - 1) + 1 by omega, tkn_some (lowP_some hl hu n hw)]
          rfl
        · dsimp only
          rw [if_neg (by decide)]
          omega
      rintro k2 z (⟨i, hi, rfl, hc⟩ | ⟨w, hw, rfl, hl, hu⟩) hk2
      · dsimp only
        by_cases hin : i = n
        · subst hin
          rw [if_pos (nI_le (Nat.le_refl _) (by omega))]
          have e2 := lowP_none i hc
          refine hk1 _ ⟨rem, cnt, f, s2, hbf, hcf, Or.inr ⟨rfl, ?_⟩⟩ ?_
          · rw [← hTT, tkn_none e2]
          · dsimp only
            rw [if_pos rfl, if_neg (by decide)]
            omega
        · have hin2 : i < n := by omega
          rw [if_neg (nI_ge hin2 (by omega)), if_pos rfl, gC_t (inb_nI (by omega) (by omega)), nI_clamp (by omega), gB_eq, hnr i hin2, gB_eq]
          have inner : ∀ s0 : Int32, (s0 = 1 ∧ bt rem i = true) ∨ (s0 = 0 ∧ ¬ loose n near rem i) → OK (gL (fun (k_70 : (Int32 × Int32) → Option (Int32 × Int32 × Int32 × Int32 × (Nat → Int32))) (z_70 : Int32 × Int32) => match z_70 with
          | (x5_18, x6_19) =>
          if nI n ≤ x6_19 then (
            if x5_18 = 0 then (
              gB (nI i + 1) (fun x3_22 =>
              k2 (rem, 0, x3_22, nI cnt, s2))
            ) else (
              gB (rem &&& (((1 : Int32) <<< (nI i &&& 31)) ^^^ (-1))) (fun x1_23 =>
              gC (inb (nI cnt) 12) (
              gB (nI cnt + 1) (fun f_25 =>
              gB (nI i + 1) (fun x3_26 =>
              k2 (x1_23, 1, x3_26, f_25, upd s2 (nI cnt).toNatClampNeg (nI i))))))
            )
          ) else (
            if x5_18 = 0 then (
              gB (x6_19 + 1) (fun x6_28 =>
              k_70 (0, x6_28))
            ) else (
              gB (α := Option (Int32 × Int32 × Int32 × Int32 × (Nat → Int32))) (
                gB (x6_19 + 1) (fun x6_29 =>
                k_70 (1, x6_29))
              ) (fun J_116 =>
              if (((near i &&& rem) >>> (x6_19 &&& 31)) &&& 1) = 0 then (
                J_116
              ) else (
                gC (inb x6_19 12) (
                if (((near i &&& rem) &&& ((near2 x6_19.toNatClampNeg) ^^^ (-1))) &&& (((1 : Int32) <<< (x6_19 &&& 31)) ^^^ (-1))) = 0 then (
                  J_116
                ) else (
                  gB (x6_19 + 1) (fun x6_33 =>
                  k_70 (0, x6_33))
                ))
              )
              )
            )
          )
          ) F (s0, 0)) (fun r => ∃ T', T' = T ∧ r = (if T'.1 = 0 then 1 else 0, 0, nI T'.2.1, T'.1, T'.2.2)) := by
            intro s0 hs0
            refine OK_for n (fun m z => (z = (1, nI m) ∧ bt rem i = true ∧ ∀ u, u < m → clq1 near (near i &&& rem) u) ∨ (z = (0, nI m) ∧ ¬ loose n near rem i)) ?_ ?_ F 0 _ (by omega) ?_ (by omega)
            · rintro k3 z (⟨rfl, hr, hq⟩ | ⟨rfl, hq⟩)
              · dsimp only
                have hb1 := bc_rm hr n (by omega) hin2
                rw [if_pos (nI_le (Nat.le_refl _) (by omega)), if_neg (by decide), gB_eq, gC_t (inb_nI (by omega) (by omega)), gB_eq, gB_eq, nI_1, nI_1, nI_clamp (by omega)]
                refine hk2 _ (Or.inr ⟨i, hin2, rfl, ⟨hr, hq⟩, hc⟩) ?_
                dsimp only
                rw [nI_clamp (by omega), nI_clamp (by omega)]
                omega
              · dsimp only
                rw [if_pos (nI_le (Nat.le_refl _) (by omega)), if_pos rfl, gB_eq, nI_1]
                refine hk2 _ (Or.inl ⟨i + 1, by omega, rfl, lt_s hc hq⟩) ?_
                dsimp only
                rw [nI_clamp (by omega), nI_clamp (by omega)]
                omega
            · rintro k3 m z hm (⟨rfl, hr, hq⟩ | ⟨rfl, hq⟩) hk3
              · dsimp only
                rw [if_neg (nI_ge hm (by omega)), if_neg (by decide), gB_eq]
                cases hb : bt (near i &&& rem) m with
                | false =>
                  rw [if_pos ((b_test _ (by omega)).mpr hb), gB_eq, nI_1]
                  exact hk3 _ (Or.inl ⟨rfl, hr, lt_s hq (fun q => by rw [hb] at q; cases q)⟩)
                | true =>
                  rw [if_neg (fun q => by rw [(b_test _ (by omega)).mp q] at hb; cases hb), gC_t (inb_nI (by omega) (by omega)), nI_clamp (by omega), hnr m hm]
                  refine OK_ite (fun q => ?_) (fun q => ?_)
                  · rw [gB_eq, nI_1]
                    exact hk3 _ (Or.inl ⟨rfl, hr, lt_s hq ((clq1_ref (by omega) hb).mp q)⟩)
                  · rw [gB_eq, nI_1]
                    exact hk3 _ (Or.inr ⟨rfl, fun l9 => q ((clq1_ref (by omega) hb).mpr (l9.2 m hm))⟩)
              · dsimp only
                rw [if_neg (nI_ge hm (by omega)), if_pos rfl, gB_eq, nI_1]
                exact hk3 _ (Or.inr ⟨rfl, hq⟩)
            · rcases hs0 with ⟨rfl, hr⟩ | ⟨rfl, hq⟩
              · exact Or.inl ⟨rfl, hr, fun u hu => by omega⟩
              · exact Or.inr ⟨rfl, hq⟩
          cases hb : bt rem i with
          | true =>
            rw [if_pos ((bit_one _ (by omega)).mpr hb)]
            exact inner 1 (Or.inl ⟨rfl, hb⟩)
          | false =>
            rw [if_neg (fun q => by rw [(bit_one _ (by omega)).mp q] at hb; cases hb)]
            exact inner 0 (Or.inr ⟨rfl, fun q => by have q1 := q.1; rw [hb] at q1; cases q1⟩)
      · dsimp only
        by_cases hwn : w + 1 = n
        · rw [if_pos (nI_le (by omega) (by omega))]
          exact found w hw hl hu
        · rw [if_neg (nI_ge (by omega) (by omega)), if_neg (by decide)]
          exact found w hw hl hu
    · dsimp only
      rw [if_pos rfl, ← hTT]
      by_cases h0 : rem = 0
      · rw [if_pos h0]
        exact OK_some ⟨_, rfl, by rw [if_pos h0]⟩
      · rw [if_neg h0]
        exact OK_some ⟨_, rfl, by rw [if_neg h0]⟩
  · dsimp only
    have := bc_le (((1 : Int32) <<< (nI n &&& 31)) - 1) n
    rw [if_neg (by decide)]
    omega
