/-! PURE, 12: greedy, d: the order told backwards -/
def dn : Nat → Int32
  | 0 => -1
  | m + 1 => nI m
theorem nI_add0 (x : Int32) : x + 1 + (-1) = x := by
  rw [Int32.add_assoc]
  show x + 0 = x
  exact Int32.add_zero x
theorem dn_a (m : Nat) : nI m + (-1) = dn m := by
  cases m with
  | zero => rfl
  | succ m =>
    rw [← nI_1, nI_add0]
    rfl
theorem dn_s (m : Nat) : nI m - 1 = dn m := by
  rw [← dn_a, Int32.sub_eq_add_neg]
theorem dn_neg {m : Nat} (h : m = 0) : dn m < 0 := by
  subst h
  decide
theorem dn_pos (m : Nat) (h : m < 2 ^ 31) : ¬ dn (m + 1) < 0 := nI_pos h
/-- v is the last from lo to below hi of those with P that have the lowest rank -/
def lmR (P : Nat → Prop) (rk : Nat → Nat) (lo hi v : Nat) : Prop := lo ≤ v ∧ v < hi ∧ P v ∧ ∀ u, lo ≤ u → u < hi → P u → rk v ≤ rk u ∧ (v < u → rk v < rk u)
theorem lmR_uniq {P : Nat → Prop} {rk : Nat → Nat} {lo hi v w : Nat} (h1 : lmR P rk lo hi v) (h2 : lmR P rk lo hi w) : v = w := by
  obtain ⟨a0, a1, a2, a3⟩ := h1
  obtain ⟨b0, b1, b2, b3⟩ := h2
  have q1 := a3 w b0 b1 b2
  have q2 := b3 v a0 a1 a2
  rcases Nat.lt_trichotomy v w with q | q | q
  · have := q1.2 q; omega
  · exact q
  · have := q2.2 q; omega
theorem lmR_dskip {P : Nat → Prop} {rk : Nat → Nat} {m hi v : Nat} (h : lmR P rk (m + 1) hi v) (hn : P m → rk v ≤ rk m) : lmR P rk m hi v := by
  obtain ⟨a0, a1, a2, a3⟩ := h
  refine ⟨by omega, a1, a2, fun u h1 h2 hp => ?_⟩
  by_cases hu : u = m
  · subst hu; exact ⟨hn hp, fun q => by omega⟩
  · exact a3 u (by omega) h2 hp
theorem lmR_dnew {P : Nat → Prop} {rk : Nat → Nat} {m hi v : Nat} (h : lmR P rk (m + 1) hi v) (hp0 : P m) (hn : rk m < rk v) : lmR P rk m hi m := by
  obtain ⟨a0, a1, a2, a3⟩ := h
  refine ⟨by omega, by omega, hp0, fun u h1 h2 hp => ?_⟩
  by_cases hu : u = m
  · subst hu; exact ⟨Nat.le_refl _, fun q => by omega⟩
  · have := (a3 u (by omega) h2 hp).1
    exact ⟨by omega, fun _ => by omega⟩
theorem lmR_dfirst {P : Nat → Prop} {rk : Nat → Nat} {m hi : Nat} (hm : m < hi) (h : ∀ u, m + 1 ≤ u → u < hi → ¬ P u) (hp0 : P m) : lmR P rk m hi m := by
  refine ⟨by omega, hm, hp0, fun u h1 h2 hp => ?_⟩
  by_cases hu : u = m
  · subst hu; exact ⟨Nat.le_refl _, fun q => by omega⟩
  · exact absurd hp (h u (by omega) h2)
theorem lmR_uskip {P : Nat → Prop} {rk : Nat → Nat} {i v : Nat} (h : lmR P rk 0 i v) (hn : P i → rk v < rk i) : lmR P rk 0 (i + 1) v := by
  obtain ⟨a0, a1, a2, a3⟩ := h
  refine ⟨a0, by omega, a2, fun u h1 h2 hp => ?_⟩
  by_cases hu : u = i
  · subst hu; have := hn hp; exact ⟨by omega, fun _ => this⟩
  · exact a3 u h1 (by omega) hp
theorem lmR_unew {P : Nat → Prop} {rk : Nat → Nat} {i v : Nat} (h : lmR P rk 0 i v) (hp0 : P i) (hn : rk i ≤ rk v) : lmR P rk 0 (i + 1) i := by
  obtain ⟨a0, a1, a2, a3⟩ := h
  refine ⟨by omega, by omega, hp0, fun u h1 h2 hp => ?_⟩
  by_cases hu : u = i
  · subst hu; exact ⟨Nat.le_refl _, fun q => by omega⟩
  · have := (a3 u h1 (by omega) hp).1
    exact ⟨by omega, fun _ => by omega⟩
theorem lmR_ufirst {P : Nat → Prop} {rk : Nat → Nat} {i : Nat} (h : ∀ u, u < i → ¬ P u) (hp0 : P i) : lmR P rk 0 (i + 1) i := by
  refine ⟨by omega, by omega, hp0, fun u h1 h2 hp => ?_⟩
  by_cases hu : u = i
  · subst hu; exact ⟨Nat.le_refl _, fun q => by omega⟩
  · exact absurd hp (h u (by omega))
def rkP (near : Nat → Int32) (rest : Int32) (u : Nat) : Nat := popN (near u &&& rest).toBitVec.toNat 12
def restIs (n : Nat) (s : Nat → Nat) (i : Nat) (rest : Int32) : Prop := ∀ u, u < 32 → (bt rest u = true ↔ u < n ∧ ∀ j, j < i → s j ≠ u)
def peelBy (n : Nat) (near : Nat → Int32) (k : Nat) (s : Nat → Nat) : Prop := ∀ i, i < k → ∃ rest, restIs n s i rest ∧ lmR (fun u => bt rest u = true) (rkP near rest) 0 n (s i)
theorem restIs_uniq {n i : Nat} {s1 s2 : Nat → Nat} {r1 r2 : Int32} (h1 : restIs n s1 i r1) (h2 : restIs n s2 i r2) (h : ∀ j, j < i → s1 j = s2 j) : r1 = r2 := by
  apply b_ext
  intro u hu
  rw [Bool.eq_iff_iff, h1 u hu, h2 u hu]
  constructor
  · rintro ⟨a, b⟩; exact ⟨a, fun j hj => by rw [← h j hj]; exact b j hj⟩
  · rintro ⟨a, b⟩; exact ⟨a, fun j hj => by rw [h j hj]; exact b j hj⟩
theorem peelBy_uniq {n : Nat} {near : Nat → Int32} {s1 s2 : Nat → Nat} : ∀ k, peelBy n near k s1 → peelBy n near k s2 → ∀ i, i < k → s1 i = s2 i
  | 0, _, _, i, hi => by omega
  | k + 1, h1, h2, i, hi => by
    have ih := peelBy_uniq (n := n) (near := near) (s1 := s1) (s2 := s2) k (fun i hi => h1 i (by omega)) (fun i hi => h2 i (by omega))
    by_cases hik : i = k
    · subst hik
      obtain ⟨r1, a1, a2⟩ := h1 i hi
      obtain ⟨r2, b1, b2⟩ := h2 i hi
      have e := restIs_uniq a1 b1 ih
      subst e
      exact lmR_uniq a2 b2
    · exact ih i (by omega)
/-- after i steps: rest is what is left, s the steps -/
def PSt (n : Nat) (near : Nat → Int32) (i : Nat) (rest : Int32) (s : Nat → Nat) : Prop := peelBy n near i s ∧ restIs n s i rest ∧ ∃ out : Nat → Int32, (∀ u, u < n → (out u = 0 ↔ bt rest u = true)) ∧ cne out 0 n ≤ i
theorem PSt_ex {n i : Nat} {near : Nat → Int32} {rest : Int32} {s : Nat → Nat} (h : PSt n near i rest s) (hi : i < n) : ∃ u, u < n ∧ bt rest u = true := by
  obtain ⟨-, -, out, h1, h2⟩ := h
  obtain ⟨u, hu, e⟩ := cne_ex (f := out) (x0 := 0) n (by omega)
  exact ⟨u, hu, (h1 u hu).mp e⟩
theorem PSt_0 {n : Nat} {near : Nat → Int32} (hn : n ≤ 12) : PSt n near 0 (((1 : Int32) <<< (nI n &&& 31)) - 1) (fun _ => 0) := by
  refine ⟨fun i hi => by omega, fun u hu => ?_, fun _ => 0, fun u hu => ?_, ?_⟩
  · rw [b_full n (by omega) u hu, decide_eq_true_iff]
    exact ⟨fun q => ⟨q, fun j hj => by omega⟩, fun q => q.1⟩
  · rw [b_full n (by omega) u (by omega), decide_eq_true_iff]
    exact ⟨fun _ => hu, fun _ => rfl⟩
  · rw [cne_0 n (fun _ _ => rfl)]; omega
theorem PSt_M {n i : Nat} {near : Nat → Int32} {rest : Int32} {s : Nat → Nat} (hn : n ≤ 12) (h : PSt n near i rest s) : M12 rest := by
  apply M12_of
  intro u h1 h2
  cases hb : bt rest u with
  | false => rfl
  | true => have := ((h.2.1 u h2).mp hb).1; omega
def setS (s : Nat → Nat) (i b : Nat) : Nat → Nat := fun q => if q = i then b else s q
theorem setS_lt {s : Nat → Nat} {i b j : Nat} (h : j < i) : setS s i b j = s j := if_neg (by omega)
theorem setS_at {s : Nat → Nat} {i b : Nat} : setS s i b i = b := if_pos rfl
theorem restIs_set {n i m b : Nat} {s : Nat → Nat} {rest : Int32} (h : restIs n s m rest) (hm : m ≤ i) : restIs n (setS s i b) m rest := by
  intro u hu
  rw [h u hu]
  constructor
  · rintro ⟨a, q⟩; exact ⟨a, fun j hj => by rw [setS_lt (by omega)]; exact q j hj⟩
  · rintro ⟨a, q⟩; exact ⟨a, fun j hj => by have := q j hj; rw [setS_lt (by omega)] at this; exact this⟩
theorem PSt_step {n i b : Nat} {near : Nat → Int32} {rest : Int32} {s : Nat → Nat} (hn : n ≤ 12) (h : PSt n near i rest s) (hb : lmR (fun u => bt rest u = true) (rkP near rest) 0 n b) : PSt n near (i + 1) (rest &&& (((1 : Int32) <<< (nI b &&& 31)) ^^^ (-1))) (setS s i b) := by
  obtain ⟨h1, h2, out, h3, h4⟩ := h
  have hbn := hb.2.1
  have key : ∀ u, u < 32 → (bt (rest &&& (((1 : Int32) <<< (nI b &&& 31)) ^^^ (-1))) u = true ↔ bt rest u = true ∧ u ≠ b) := by
    intro u hu
    rw [b_and, b_not _ hu, b_one (by omega) hu]
    by_cases e : u = b
    · simp [e]
    · simp [e]
  refine ⟨?_, ?_, upd out b 1, ?_, ?_⟩
  · intro m hm
    by_cases hmi : m = i
    · subst hmi
      rw [setS_at]
      exact ⟨rest, restIs_set h2 (Nat.le_refl _), hb⟩
    · obtain ⟨r, a1, a2⟩ := h1 m (by omega)
      rw [setS_lt (by omega)]
      exact ⟨r, restIs_set a1 (by omega), a2⟩
  · intro u hu
    rw [key u hu, h2 u hu]
    constructor
    · rintro ⟨⟨a, q⟩, e⟩
      refine ⟨a, fun j hj => ?_⟩
      by_cases hji : j = i
      · subst hji; rw [setS_at]; exact Ne.symm e
      · rw [setS_lt (by omega)]; exact q j (by omega)
    · rintro ⟨a, q⟩
      refine ⟨⟨a, fun j hj => ?_⟩, ?_⟩
      · have := q j (by omega)
        rw [setS_lt hj] at this
        exact this
      · have := q i (by omega)
        rw [setS_at] at this
        exact Ne.symm this
  · intro u hu
    rw [key u (by omega)]
    by_cases e : u = b
    · subst e
      rw [upd_same]
      exact ⟨fun q => absurd q (by decide), fun q => absurd rfl q.2⟩
    · rw [upd_ne e, h3 u hu]
      exact ⟨fun q => ⟨q, e⟩, fun q => q.1⟩
  · have := (cne_upd (f := out) (x0 := 0) (x := 1) (b := b) n).1
    omega
theorem rkP_lt {n k : Nat} {near tail head : Nat → Int32} (h : GR n k near tail head) (rest : Int32) {x : Nat} (hx : x < n) : rkP near rest x < 12 := by
  have hn := h.1
  unfold rkP
  rw [popN_bc _ 12 (by omega)]
  apply bc_lt (v := x) _ 12 (by omega)
  rw [b_and]
  cases hb : bt (near x) x with
  | false => rfl
  | true => exact absurd rfl (h.2.2.1 x x (by omega) (by omega) hb).2.2.1
theorem M12_and {x y : Int32} (h : M12 x) : M12 (x &&& y) := by
  apply M12_of
  intro i h1 h2
  rw [b_and, M12_bt h h1 h2]
  rfl
theorem Gr_peel_ok {F n k : Nat} {a v : Int32} {pe near tail head : Nat → Int32} (h : GR n k near tail head) (hF : 12 < F) : OK (m_Gr_peel F pe (nI n) a v near) (fun r => ∃ s, peelBy n near n s ∧ ∀ i, i < n → r i = nI (s i)) := by
  have hn := h.1
  unfold m_Gr_peel m_Net_everyNode
  rw [gM_s rfl]
  refine OK_for n (fun i z => ∃ (rest : Int32) (p2 : Nat → Int32) (s : Nat → Nat), z = (rest, nI i, p2) ∧ PSt n near i rest s ∧ ∀ j, j < i → p2 j = nI (s j)) ?_ ?_ F 0 _ (by omega) ⟨_, pe, fun _ => 0, rfl, PSt_0 hn, fun j hj => by omega⟩ (by omega)
  · rintro k1 z ⟨rest, p2, s, rfl, h1, h2⟩
    dsimp only
    rw [if_pos (nI_le (Nat.le_refl _) (by omega))]
    exact OK_some ⟨s, h1.1, h2⟩
  · rintro k1 i z hi ⟨rest, p2, s, rfl, h1, h2⟩ hk1
    dsimp only
    rw [if_neg (nI_ge hi (by omega)), gB_eq, dn_s]
    obtain ⟨u0, hu0, hu1⟩ := PSt_ex h1 hi
    refine OK_for n (fun m z => (z = (0, 12, dn (n - m)) ∧ ∀ u, n - m ≤ u → u < n → ¬ bt rest u = true) ∨ ∃ b, z = (nI b, nI (rkP near rest b), dn (n - m)) ∧ lmR (fun u => bt rest u = true) (rkP near rest) (n - m) n b) ?_ ?_ F 0 _ (by omega) (Or.inl ⟨rfl, fun u hu => by omega⟩) (by omega)
    · rintro k2 z (⟨rfl, hq⟩ | ⟨b, rfl, hb⟩)
      · exact absurd hu1 (hq u0 (by omega) hu0)
      · rw [Nat.sub_self] at hb
        dsimp only
        rw [if_pos (dn_neg (Nat.sub_self n)), gC_t (inb_nI (by omega) (by omega)), gB_eq, gB_eq, nI_1, nI_clamp (by omega)]
        refine hk1 _ ⟨_, _, setS s i b, rfl, PSt_step hn h1 hb, fun j hj => ?_⟩
        by_cases hji : j = i
        · subst hji; rw [upd_same, setS_at]
        · rw [upd_ne hji, setS_lt (by omega)]; exact h2 j (by omega)
    · intro k2 m z hm hz hk2
      obtain ⟨w, hw⟩ : ∃ w, n - m = w + 1 := ⟨n - m - 1, by omega⟩
      have hw2 : n - (m + 1) = w := by omega
      rw [hw2] at hk2
      have hwn : w < n := by omega
      have hr := rkP_lt h rest hwn
      have hbc : bitc (near w &&& rest) = nI (rkP near rest w) := bitc_M (M12_and (GR_M12 h (by omega)))
      rw [hw] at hz
      obtain ⟨x4, x5, rfl, hx⟩ : ∃ x4 x5 : Int32, z = (x4, x5, nI w) ∧ ((x4 = 0 ∧ x5 = 12 ∧ ∀ u, w + 1 ≤ u → u < n → ¬ bt rest u = true) ∨ (∃ b, x4 = nI b ∧ x5 = nI (rkP near rest b) ∧ lmR (fun u => bt rest u = true) (rkP near rest) (w + 1) n b)) := by
        rcases hz with ⟨rfl, hq⟩ | ⟨b, rfl, hl⟩
        · exact ⟨_, _, rfl, Or.inl ⟨rfl, rfl, hq⟩⟩
        · exact ⟨_, _, rfl, Or.inr ⟨b, rfl, rfl, hl⟩⟩
      dsimp only
      rw [if_neg (nI_pos (by omega)), gC_t (inb_nI (show w < 12 by omega) (by omega)), gB_eq, nI_clamp (by omega), hbc]
      by_cases hb : bt rest w = true
      · rw [if_neg (fun q => by rw [(b_test rest (by omega)).mp q] at hb; cases hb)]
        rcases hx with ⟨rfl, rfl, hq⟩ | ⟨b, rfl, rfl, hl⟩
        · rw [if_neg (fun q => by
            have e := Int32.le_iff_toInt_le.mp q
            rw [nI_toInt (by omega)] at e
            have e3 : (12 : Int32).toInt = 12 := by decide
            omega), gB_eq, dn_a]
          exact hk2 _ (Or.inr ⟨w, rfl, lmR_dfirst hwn hq hb⟩)
        · have hr2 := rkP_lt h rest hl.2.1
          by_cases hle : rkP near rest b ≤ rkP near rest w
          · rw [if_pos (nI_le hle (by omega)), gB_eq, dn_a]
            exact hk2 _ (Or.inr ⟨b, rfl, lmR_dskip hl (fun _ => hle)⟩)
          · rw [if_neg (nI_ge (by omega) (by omega)), gB_eq, dn_a]
            exact hk2 _ (Or.inr ⟨w, rfl, lmR_dnew hl hb (by omega)⟩)
      · rw [if_pos ((b_test rest (by omega)).mpr (by cases hq : bt rest w with
          | false => rfl
          | true => exact absurd hq hb)), gB_eq, dn_a]
        rcases hx with ⟨rfl, rfl, hq⟩ | ⟨b, rfl, rfl, hl⟩
        · refine hk2 _ (Or.inl ⟨rfl, fun u h1 h2 => ?_⟩)
          by_cases e : u = w
          · subst e; exact hb
          · exact hq u (by omega) h2
        · exact hk2 _ (Or.inr ⟨b, rfl, lmR_dskip hl (fun q => absurd q hb)⟩)
theorem Mo_orderBackwards_ok {F n k : Nat} {t a y z c d : Int32} {near tail head near2 od : Nat → Int32} (h : GR n k near tail head) (hnr : ∀ v, v < n → near2 v = near v) (hF : 12 < F) : OK (m_Mo_orderBackwards F t (nI n) a y z c d near2 od) (fun r => ∃ s, peelBy n near n s ∧ ∀ i, i < n → r (n - 1 - i) = nI (s i)) := by
  have hn := h.1
  unfold m_Mo_orderBackwards
  rw [gB_eq, gB_eq, dn_s]
  refine OK_for n (fun i z => ∃ (rest : Int32) (p2 : Nat → Int32) (s : Nat → Nat), z = (rest, dn (n - i), p2) ∧ PSt n near i rest s ∧ ∀ j, j < i → p2 (n - 1 - j) = nI (s j)) ?_ ?_ F 0 _ (by omega) ⟨_, od, fun _ => 0, rfl, PSt_0 hn, fun j hj => by omega⟩ (by omega)
  · rintro k1 z ⟨rest, p2, s, rfl, h1, h2⟩
    dsimp only
    rw [if_pos (dn_neg (Nat.sub_self n))]
    exact OK_some ⟨s, h1.1, h2⟩
  · rintro k1 i z hi ⟨rest, p2, s, rfl, h1, h2⟩ hk1
    obtain ⟨w, hw⟩ : ∃ w, n - i = w + 1 := ⟨n - i - 1, by omega⟩
    have hw2 : n - (i + 1) = w := by omega
    rw [hw2] at hk1
    rw [hw]
    dsimp only
    rw [if_neg (dn_pos w (by omega))]
    have hdw : dn (w + 1) = nI w := rfl
    rw [hdw]
    obtain ⟨u0, hu0, hu1⟩ := PSt_ex h1 hi
    refine OK_for n (fun m z => (z = (-1, nI m) ∧ ∀ u, u < m → ¬ bt rest u = true) ∨ ∃ b, z = (nI b, nI m) ∧ lmR (fun u => bt rest u = true) (rkP near rest) 0 m b) ?_ ?_ F 0 _ (by omega) (Or.inl ⟨rfl, fun u hu => by omega⟩) (by omega)
    · rintro k2 z (⟨rfl, hq⟩ | ⟨b, rfl, hb⟩)
      · exact absurd hu1 (hq u0 hu0)
      · dsimp only
        rw [if_pos (nI_le (Nat.le_refl _) (by omega)), gB_eq, gC_t (inb_nI (show w < 12 by omega) (by omega)), gB_eq, dn_a, nI_clamp (by omega)]
        refine hk1 _ ⟨_, _, setS s i b, rfl, PSt_step hn h1 hb, fun j hj => ?_⟩
        by_cases hji : j = i
        · subst hji
          have e : n - 1 - j = w := by omega
          rw [e, upd_same, setS_at]
        · rw [upd_ne (by omega), setS_lt (by omega)]; exact h2 j (by omega)
    · intro k2 m z hm hz hk2
      have hcm : m_Mo_count F (near2 m &&& rest) = some (nI (rkP near rest m)) := by
        rw [hnr m hm]; exact count_M (M12_and (GR_M12 h (by omega))) hF
      have hr := rkP_lt h rest hm
      by_cases hb : bt rest m = true
      · rcases hz with ⟨rfl, hq⟩ | ⟨b, rfl, hl⟩
        · dsimp only
          rw [if_neg (nI_ge hm (by omega)), gB_eq, if_pos ((bit_one rest (by omega)).mpr hb)]
          try dsimp only
          rw [if_neg (show ¬ (1 : Int32) = 0 by decide), gB_eq, if_pos rfl, gB_eq, nI_1]
          exact hk2 _ (Or.inr ⟨m, rfl, lmR_ufirst hq hb⟩)
        · have hbm := hl.2.1
          have hcb : m_Mo_count F (near2 b &&& rest) = some (nI (rkP near rest b)) := by
            rw [hnr b (by omega)]; exact count_M (M12_and (GR_M12 h (by omega))) hF
          have hr2 := rkP_lt h rest (show b < n by omega)
          dsimp only
          rw [if_neg (nI_ge hm (by omega)), gB_eq, if_pos ((bit_one rest (by omega)).mpr hb)]
          try dsimp only
          rw [if_neg (show ¬ (1 : Int32) = 0 by decide), gB_eq, if_neg (nm1 (by omega)), gC_t (inb_nI (show m < 12 by omega) (by omega)), nI_clamp (by omega), gM_s hcm, gC_t (inb_nI (show b < 12 by omega) (by omega)), nI_clamp (by omega), gM_s hcb]
          by_cases hlt : rkP near rest b < rkP near rest m
          · rw [if_pos (nI_lt hlt (by omega)), gB_eq, nI_1]
            exact hk2 _ (Or.inr ⟨b, rfl, lmR_uskip hl (fun _ => hlt)⟩)
          · rw [if_neg (fun q => by
              have e := Int32.lt_iff_toInt_lt.mp q
              rw [nI_toInt (by omega), nI_toInt (by omega)] at e
              omega), gB_eq, nI_1]
            exact hk2 _ (Or.inr ⟨m, rfl, lmR_unew hl hb (by omega)⟩)
      · rcases hz with ⟨rfl, hq⟩ | ⟨b, rfl, hl⟩
        · dsimp only
          rw [if_neg (nI_ge hm (by omega)), gB_eq, if_neg (fun q => hb ((bit_one rest (by omega)).mp q))]
          try dsimp only
          rw [if_pos rfl, gB_eq, nI_1]
          exact hk2 _ (Or.inl ⟨rfl, lt_s hq hb⟩)
        · dsimp only
          rw [if_neg (nI_ge hm (by omega)), gB_eq, if_neg (fun q => hb ((bit_one rest (by omega)).mp q))]
          try dsimp only
          rw [if_pos rfl, gB_eq, nI_1]
          exact hk2 _ (Or.inr ⟨b, rfl, lmR_uskip hl (fun q => absurd q hb)⟩)
