/-! PURE, 48: the counter by lists, its simple nodes -/
def nrR (near : Nat → Int32) (n : Nat) : Nat → Nat → Prop := fun i j => i < n ∧ j < n ∧ bt (near i) j = true
theorem nrR_sym {n k : Nat} {near tail head : Nat → Int32} (h : GR n k near tail head) : ∀ i j, nrR near n i j → nrR near n j i := fun i j w => ⟨w.2.1, w.1, GR_sym' h i j w.1 w.2.1 w.2.2⟩
theorem nrR_irr {n k : Nat} {near tail head : Nat → Int32} (h : GR n k near tail head) : ∀ i, ¬ nrR near n i i := fun i w => GR_irr h i w.1 w.2.2
theorem wy_nr {al nr nr' : Nat → Nat → Prop} {n : Nat} (h : ∀ i j, i < n → j < n → (nr i j ↔ nr' i j)) : ∀ k S, S < 2 ^ n → wy al nr n k S = wy al nr' n k S := by
  intro k
  induction k with
  | zero => intro S _; rfl
  | succ k ih =>
    intro S hS
    rw [wy_s, wy_s]
    refine pp_congr n S _ _ hS (fun a b ha hb hc => ?_)
    rw [ih b hb]
    congr 1
    by_cases q : okT al nr k a
    · rw [iT_1 q, iT_1 ⟨q.1, fun i j hi hj w => q.2 i j hi hj ((h i j (bit_lt ha hi) (bit_lt ha hj)).mpr w)⟩]
    · rw [iT_0 q, iT_0 (fun z => q ⟨z.1, fun i j hi hj w => z.2 i j hi hj ((h i j (bit_lt ha hi) (bit_lt ha hj)).mp w)⟩)]
theorem wy_R {al : Nat → Nat → Prop} {near : Nat → Int32} {n k S : Nat} (hS : S < 2 ^ n) : wy al (nr0 near) n k S = wy al (nrR near n) n k S := wy_nr (fun i j hi hj => ⟨fun w => ⟨hi, hj, w⟩, fun w => w.2.2⟩) k S hS
theorem wy_z {al nr : Nat → Nat → Prop} {n : Nat} : ∀ k, wy al nr n k 0 = 1 := by
  intro k
  induction k with
  | zero => rfl
  | succ k ih =>
    rw [wy_s, pp_0S, ih, iT_1 ⟨(fun i hi => by rw [Nat.zero_testBit] at hi; cases hi), (fun i j hi => by rw [Nat.zero_testBit] at hi; cases hi)⟩]
    rfl
theorem LC_take_ok {F n : Nat} {a1 a2 a3 b1 b2 sel bits : Int32} {op : Nat → Int32} (hn : n ≤ 12) (hF : 100 < F) : OK (m_LC_takeColourFrom F a1 a2 a3 op (nI n) b1 b2 sel bits) (fun r => ∀ v, r v = if v < n ∧ bt sel v = true then (op v) &&& (bits ^^^ (-1)) else op v) := by
  unfold m_LC_takeColourFrom
  refine OK_for n (fun i z => ∃ o : Nat → Int32, z = (nI i, o) ∧ ∀ v, o v = if v < i ∧ bt sel v = true then (op v) &&& (bits ^^^ (-1)) else op v) ?_ ?_ F 0 _ (by omega) ⟨op, rfl, fun v => by rw [if_neg (by omega)]⟩ (by omega)
  · rintro k1 z ⟨o, rfl, h⟩
    try dsimp only
    rw [if_pos (nI_le (Nat.le_refl _) (by omega))]
    exact OK_some h
  · rintro k1 i z hi ⟨o, rfl, h⟩ hk1
    try dsimp only
    rw [if_neg (nI_ge hi (by omega))]
    by_cases hb : bt sel i = true
    · rw [if_neg ((b_ne_t (by omega)).mpr hb), gC_t (inb_nI (by omega) (by omega)), gC_t (inb_nI (by omega) (by omega)), gB_eq, nI_1, nI_clamp (by omega)]
      refine hk1 _ ⟨_, rfl, fun v => ?_⟩
      by_cases e : v = i
      · subst e
        rw [upd_same, h v, if_neg (by omega), if_pos ⟨by omega, hb⟩]
      · rw [upd_ne e, h v]
        by_cases q : v < i ∧ bt sel v = true
        · rw [if_pos q, if_pos ⟨by omega, q.2⟩]
        · rw [if_neg q, if_neg (fun w => q ⟨by omega, w.2⟩)]
    · rw [if_pos ((b_test sel (by omega)).mpr (bt_f hb)), gB_eq, nI_1]
      refine hk1 _ ⟨o, rfl, fun v => ?_⟩
      rw [h v]
      by_cases q : v < i ∧ bt sel v = true
      · rw [if_pos q, if_pos ⟨by omega, q.2⟩]
      · rw [if_neg q, if_neg (fun w => q ⟨by
          by_cases e : v = i
          · subst e; exact absurd w.2 hb
          · omega, w.2⟩)]
theorem LC_openTo_ok {F n : Nat} {a1 a2 a3 b1 b2 sel : Int32} {op : Nat → Int32} (hn : n ≤ 12) (hF : 100 < F) : OK (m_LC_openTo F a1 a2 a3 op (nI n) b1 b2 sel) (fun r => ∀ c, c < 32 → (bt r c = true ↔ ∃ v, v < n ∧ bt sel v = true ∧ bt (op v) c = true)) := by
  unfold m_LC_openTo
  refine OK_for n (fun i z => ∃ x : Int32, z = (x, nI i) ∧ ∀ c, c < 32 → (bt x c = true ↔ ∃ v, v < i ∧ bt sel v = true ∧ bt (op v) c = true)) ?_ ?_ F 0 _ (by omega) ⟨0, rfl, fun c hc => by rw [b_0]; exact ⟨fun w => (by cases w), fun ⟨v, hv, _⟩ => by omega⟩⟩ (by omega)
  · rintro k1 z ⟨x, rfl, h⟩
    try dsimp only
    rw [if_pos (nI_le (Nat.le_refl _) (by omega))]
    exact OK_some h
  · rintro k1 i z hi ⟨x, rfl, h⟩ hk1
    try dsimp only
    rw [if_neg (nI_ge hi (by omega))]
    by_cases hb : bt sel i = true
    · rw [if_neg ((b_ne_t (by omega)).mpr hb), gC_t (inb_nI (by omega) (by omega)), gB_eq, gB_eq, nI_1, nI_clamp (by omega)]
      refine hk1 _ ⟨_, rfl, fun c hc => ?_⟩
      rw [b_or, Bool.or_eq_true, h c hc]
      constructor
      · rintro (⟨v, hv, w⟩ | w)
        · exact ⟨v, by omega, w⟩
        · exact ⟨i, by omega, hb, w⟩
      · rintro ⟨v, hv, w1, w2⟩
        by_cases e : v = i
        · subst e; exact Or.inr w2
        · exact Or.inl ⟨v, by omega, w1, w2⟩
    · rw [if_pos ((b_test sel (by omega)).mpr (bt_f hb)), gB_eq, nI_1]
      refine hk1 _ ⟨x, rfl, fun c hc => ?_⟩
      rw [h c hc]
      constructor
      · rintro ⟨v, hv, w⟩
        exact ⟨v, by omega, w⟩
      · rintro ⟨v, hv, w1, w2⟩
        refine ⟨v, ?_, w1, w2⟩
        by_cases e : v = i
        · subst e; exact absurd w1 hb
        · omega
theorem sumR_bc (x : Int32) : ∀ n, sumR (fun c => bI (bt x c = true)) n = (bc x n : Int) := by
  intro n
  induction n with
  | zero => rfl
  | succ n ih =>
    rw [sumR_s, ih, bc_s]
    by_cases h : bt x n = true
    · rw [bI_1 h, if_pos h]; omega
    · rw [bI_0 h, if_neg h]; omega
theorem bc_hi {x : Int32} {n m : Nat} (hnm : n ≤ m) (h : ∀ i, n ≤ i → i < m → bt x i = false) : bc x m = bc x n := by
  rw [bc_cP, bc_cP]
  exact cP_0 m hnm h
theorem LI_mul (a b : Int) : LI a * LI b = LI (a * b) := (Int64.ofInt_mul a b).symm
theorem toL {a b : Nat} (ha : a < 2 ^ 30) (hb : b < 2 ^ 30) : (nI a - nI b).toInt64 = LI ((a : Int) - b) := by
  rw [← Int64.ofInt_int32ToInt, pk_sub_toInt ha hb]
theorem toL1 {a : Nat} (ha : a < 2 ^ 30) : (nI a).toInt64 = LI (a : Int) := by
  have := toL (a := a) (b := 0) ha (by omega)
  rw [show nI a - nI 0 = nI a from pk_sub (b := 0) (by omega)] at this
  rw [this]
  congr 1
def hi12 (op : Nat → Int32) (n : Nat) : Prop := ∀ v, v < n → ∀ c, 12 ≤ c → c < 32 → bt (op v) c = false
theorem LC_simple_ok {F n ka : Nat} {a1 a2 b1 b2 : Int32} {near tail head op : Nat → Int32} {R0 : Nat} (h : GR n ka near tail head) (hR0 : R0 < 2 ^ n) (hop : hi12 op n) (hF : 100 < F) : OK (m_LC_takeSimple F (nI R0) a1 a2 op (nI n) b1 b2 near) (fun r => ∃ (P : Int) (R : Nat), r.1 = LI P ∧ r.2.1 = nI R ∧ sbN R R0 ∧ hi12 r.2.2 n ∧ P * wy (al0 r.2.2) (nrR near n) n 12 R = wy (al0 op) (nrR near n) n 12 R0) := by
  have hn := h.1
  have hs := nrR_sym h
  have hirr := nrR_irr h
  unfold m_LC_takeSimple
  generalize hN0 : wy (al0 op) (nrR near n) n 12 R0 = N0
  generalize hPP : (fun r : Int64 × Int32 × (Nat → Int32) => ∃ (P : Int) (R : Nat), r.1 = LI P ∧ r.2.1 = nI R ∧ sbN R R0 ∧ hi12 r.2.2 n ∧ P * wy (al0 r.2.2) (nrR near n) n 12 R = N0) = PP
  refine OK_for 12 (fun r z => ∃ (P : Int) (b : Int32) (R : Nat) (o : Nat → Int32), z = (LI P, b, nI r, nI R, o) ∧ sbN R R0 ∧ hi12 o n ∧ P * wy (al0 o) (nrR near n) n 12 R = N0) ?_ ?_ F 0 _ (by omega) ⟨1, 1, R0, op, rfl, sbN_refl _, hop, by rw [Int.one_mul]; exact hN0⟩ (by omega)
  · rintro k1 z ⟨P, b, R, o, rfl, h1, h2, h3⟩
    try dsimp only
    rw [if_pos (show (12 : Int32) ≤ nI 12 from nI_le (Nat.le_refl _) (by omega)), ← hPP]
    exact OK_some ⟨P, R, rfl, rfl, h1, h2, h3⟩
  · rintro k1 r z hr ⟨P, b, R, o, rfl, h1, h2, h3⟩ hk1
    try dsimp only
    rw [if_neg (show ¬ (12 : Int32) ≤ nI r from nI_ge (a := r) (b := 12) hr (by omega))]
    by_cases hb : b = 0
    · rw [if_pos hb, ← hPP]
      exact OK_some ⟨P, R, rfl, rfl, h1, h2, h3⟩
    · rw [if_neg hb]
      refine OK_for n (fun v z => ∃ (P : Int) (b : Int32) (R : Nat) (o : Nat → Int32), z = (LI P, b, nI v, nI R, o) ∧ sbN R R0 ∧ hi12 o n ∧ P * wy (al0 o) (nrR near n) n 12 R = N0) ?_ ?_ F 0 _ (by omega) ⟨P, 0, R, o, rfl, h1, h2, h3⟩ (by omega)
      · rintro k2 z ⟨P, b, R, o, rfl, h1, h2, h3⟩
        try dsimp only
        rw [if_pos (nI_le (Nat.le_refl _) (by omega)), gB_eq, nI_1]
        exact hk1 _ ⟨P, b, R, o, rfl, h1, h2, h3⟩
      · rintro k2 v z hv ⟨P, b, R, o, rfl, h1, h2, h3⟩ hk2
        have hR : R < 2 ^ n := Nat.lt_of_le_of_lt (sbN_le h1) hR0
        have hp := pow_le12 hn
        try dsimp only
        rw [if_neg (nI_ge hv (by omega)), gC_t (inb_nI (by omega) (by omega)), gB_eq, nI_clamp (by omega)]
        have stay : OK (k2 (LI P, b, nI (v + 1), nI R, o)) PP := hk2 _ ⟨P, b, R, o, rfl, h1, h2, h3⟩
        by_cases hvR : R.testBit v = true
        · rw [if_neg (fun w => (bit_0 (by omega)).mp w hvR), gC_t (inb_nI (by omega) (by omega))]
          have hbes : ∀ i, i < 32 → (bt ((near v) &&& nI R) i = true ↔ bt (near v) i = true ∧ R.testBit i = true) := fun i hi => by rw [b_and, Bool.and_eq_true, bt_nI R hi]
          have hbn : ∀ i, n ≤ i → i < 32 → bt ((near v) &&& nI R) i = false := fun i h4 h5 => bt_f (fun w => by have := bit_lt hR ((hbes i h5).mp w).2; omega)
          have hrm : nI R &&& (((1 : Int32) <<< (nI v &&& 31)) ^^^ (-1)) = nI (rmB R v) := rmB_nI hR (by omega)
          have hov : ∀ c, 12 ≤ c → c < 32 → bt (o v) c = false := h2 v hv
          have hbc : bitc (o v) = nI (bc (o v) 12) := by
            rw [bitc_b16 (fun i h4 h5 => hov i (by omega) h5), bc_hi (n := 12) (m := 16) (by omega) (fun i h4 h5 => hov i h4 (by omega))]
          have hl12 := bc_le (o v) 12
          rw [hbc]
          refine OK_gBQ (fun J => ∀ (P' : Int) (o' : Nat → Int32), hi12 o' n → P' * wy (al0 o') (nrR near n) n 12 (rmB R v) = N0 → OK (J (LI P') o') PP) ?_ ?_
          · intro P' o' g1 g2
            try dsimp only
            rw [gB_eq, gB_eq, hrm, nI_1]
            exact hk2 _ ⟨P', 1, rmB R v, o', rfl, sbN_trans (rmB_sb R v) h1, g1, g2⟩
          · intro J hJ
            try dsimp only
            by_cases hc1 : 1 < bc (o v) 12
            · rw [if_pos (show (1 : Int32) < nI (bc (o v) 12) from nI_lt (a := 1) hc1 (by omega))]
              refine OK_gM (Net_allNear_ok h (by omega)) ?_
              rintro q (⟨rfl, hq⟩ | ⟨rfl, hq⟩)
              · rw [if_neg (show ¬ (1 : Int32) = 0 by decide)]
                refine OK_gM (LC_openTo_ok hn hF) ?_
                intro ot hot
                rw [gC_t (inb_nI (by omega) (by omega))]
                by_cases h0 : ot &&& ((o v) ^^^ (-1)) = 0
                · rw [if_pos h0, gC_t (inb_nI (by omega) (by omega)), gB_eq]
                  have hbb : bitc ((near v) &&& nI R) = nI (bc ((near v) &&& nI R) n) := by
                    rw [bitc_b16 (fun i h4 h5 => hbn i (by omega) h5), bc_hi (n := n) (m := 16) (by omega) (fun i h4 h5 => hbn i h4 (by omega))]
                  have hln := bc_le ((near v) &&& nI R) n
                  rw [hbb, toL (by omega) (by omega), LI_mul]
                  refine hJ _ o h2 ?_
                  obtain ⟨Q, hQl, hQe⟩ := mask_of (x := (near v) &&& nI R) (w := n) hbn
                  have hQb : ∀ i, Q.testBit i = true ↔ (rmB R v).testBit i = true ∧ nrR near n v i := by
                    intro i
                    constructor
                    · intro w
                      have hin := bit_lt hQl w
                      have := (hbes i (by omega)).mp (by rw [hQe, bt_nI Q (by omega)]; exact w)
                      exact ⟨rmB_bit.mpr ⟨this.2, fun e => GR_irr h v hv (by have z := this.1; rw [e] at z; exact z)⟩, hv, hin, this.1⟩
                    · intro w
                      have hin := bit_lt hR (rmB_bit.mp w.1).1
                      have := (hbes i (by omega)).mpr ⟨w.2.2.2, (rmB_bit.mp w.1).1⟩
                      rw [hQe, bt_nI Q (by omega)] at this
                      exact this
                  have hsim := wy_simple (al := al0 o) (k := 12) hs hirr hR hvR hQb (fun i j hi hj hij => ?_) (fun i c hi hc w => ?_)
                  · rw [← h3, hsim]
                    have e1 : sumR (fun c => bI (al0 o v c)) 12 = (bc (o v) 12 : Int) := sumR_bc (o v) 12
                    have e2 : sumR (fun b => bI (Q.testBit b = true)) n = (bc ((near v) &&& nI R) n : Int) := by
                      rw [← sumR_bc]
                      refine sumR_eq n (fun i hi => bI_iff ?_)
                      rw [hQe, bt_nI Q (by omega)]
                    rw [e1, e2, ← Int.mul_assoc]
                  · have hi1 := bit_lt hQl hi
                    have hj1 := bit_lt hQl hj
                    refine ⟨hi1, hj1, ?_⟩
                    exact hq i hi1 (by rw [hQe, bt_nI Q (by omega)]; exact hi) j (by omega) (by rw [hQe, bt_nI Q (by omega)]; exact hj) (fun e => hij e.symm)
                  · have hi1 := bit_lt hQl hi
                    refine Classical.byContradiction (fun z => ?_)
                    have h4 := (b_eq0 _).mp h0 c (by omega)
                    rw [b_and, b_not _ (by omega)] at h4
                    have h5 := (hot c (by omega)).mpr ⟨i, hi1, by rw [hQe, bt_nI Q (by omega)]; exact hi, w⟩
                    rw [h5, bt_f z] at h4
                    cases h4
                · rw [if_neg h0, gB_eq, nI_1]
                  exact stay
              · rw [if_pos rfl, gB_eq, nI_1]
                exact stay
            · rw [if_neg (show ¬ (1 : Int32) < nI (bc (o v) 12) from nI_nlt (a := 1) (by omega) (by omega)), gC_t (inb_nI (by omega) (by omega)), gB_eq, gC_t (inb_nI (by omega) (by omega)), toL1 (by omega), LI_mul]
              refine OK_gM (LC_take_ok hn hF) ?_
              intro o' ho'
              refine hJ _ o' (fun w hw c h4 h5 => ?_) ?_
              · rw [ho' w]
                by_cases q : w < n ∧ bt ((near v) &&& nI R) w = true
                · rw [if_pos q, b_and, h2 w hw c h4 h5, Bool.false_and]
                · rw [if_neg q]; exact h2 w hw c h4 h5
              · by_cases hc0 : bc (o v) 12 = 0
                · rw [hc0, ← h3, wy_none hs hirr hR hvR (fun c hc w => by
                    have w' : bt (o v) c = true := w
                    rw [bc_0 12 hc0 c hc] at w'; cases w')]
                  simp
                · have hc1' : bc (o v) 12 = 1 := by omega
                  obtain ⟨c, hc, hcb, hcu⟩ : ∃ c, c < 12 ∧ bt (o v) c = true ∧ ∀ d, d < 12 → bt (o v) d = true → d = c := by
                    have : ∃ c, c < 12 ∧ bt (o v) c = true := Classical.byContradiction (fun q => hc0 (by
                      rw [bc_cP, cP_0 (i := 0) 12 (by omega) (fun w _ hw => bt_f (fun z => q ⟨w, hw, z⟩))]
                      rfl))
                    obtain ⟨c, hc, hcb⟩ := this
                    refine ⟨c, hc, hcb, fun d hd hdb => Classical.byContradiction (fun q => ?_)⟩
                    have h4 := bc_rm (x := o v) (v := c) hcb 12 (by omega) hc
                    have h5 : bc ((o v) &&& (((1 : Int32) <<< (nI c &&& 31)) ^^^ (-1))) 12 = 0 := by omega
                    have h6 := bc_0 12 h5 d hd
                    rw [bt_f (x := (o v) &&& (((1 : Int32) <<< (nI c &&& 31)) ^^^ (-1))) (i := d) (by rw [h6]; decide)] at h6
                    have h7 := (b_rm_iff (o v) (v := c) (i := d) (by omega) (by omega)).mpr ⟨hdb, q⟩
                    rw [bc_0 12 h5 d hd] at h7; cases h7
                  rw [hc1', ← h3, wy_only hs hirr hR hvR hc (fun d hd => ⟨fun w => hcu d hd w, fun w => by rw [w]; exact hcb⟩)]
                  rw [show (((1 : Nat) : Int)) = 1 from rfl, Int.mul_one]
                  congr 1
                  refine wy_congr 12 _ (rmB_lt hR) (fun i d hi hd => ?_)
                  have hiR := (rmB_bit.mp hi).1
                  have hin := bit_lt hR hiR
                  show bt (o' i) d = true ↔ _
                  rw [ho' i]
                  by_cases q : i < n ∧ bt ((near v) &&& nI R) i = true
                  · rw [if_pos q, b_and, b_not _ (by omega), Bool.and_eq_true]
                    have hnb := ((hbes i (by omega)).mp q.2).1
                    constructor
                    · rintro ⟨w1, w2⟩
                      refine ⟨w1, fun z => ?_⟩
                      rw [z.2, hcb] at w2; cases w2
                    · rintro ⟨w1, w2⟩
                      refine ⟨w1, ?_⟩
                      rw [bt_f (fun z => w2 ⟨⟨hv, hin, hnb⟩, hcu d hd z⟩)]; rfl
                  · rw [if_neg q]
                    refine ⟨fun w => ⟨w, fun z => q ⟨hin, (hbes i (by omega)).mpr ⟨z.1.2.2, hiR⟩⟩⟩, fun w => w.1⟩
        · rw [if_pos ((bit_0 (by omega)).mpr hvR), gB_eq, nI_1]
          exact stay
