/-! PURE, 35: sets without arcs; what can go on -/
def apt (near : Nat → Int32) (s : Nat) : Prop := ∀ i j, s.testBit i = true → s.testBit j = true → ¬ bt (near i) j = true
theorem pow_le12 {n : Nat} (hn : n ≤ 12) : 2 ^ n ≤ 4096 := by
  have : (4096 : Nat) = 2 ^ 12 := rfl
  rw [this]
  exact Nat.pow_le_pow_right (by omega) hn
theorem one_shl {n : Nat} (hn : n ≤ 12) : (1 : Int32) <<< (nI n &&& 31) = nI (2 ^ n) := by
  have h := pow_le12 hn
  have := pk_shlN (n := 1) (nI n &&& 31) n (s_l n (by omega)) (by omega)
  rw [Nat.one_mul] at this
  exact this
theorem nI_mask {n : Nat} (hn : n ≤ 12) : ((1 : Int32) <<< (nI n &&& 31)) - 1 = nI (2 ^ n - 1) := by
  rw [one_shl hn]
  exact pk_sub (b := 1) (Nat.one_le_two_pow)
theorem and0_iff {x : Int32} {s : Nat} (hs : s < 2 ^ 32) : x &&& nI s = 0 ↔ ∀ j, s.testBit j = true → ¬ bt x j = true := by
  rw [b_eq0]
  constructor
  · intro h j hj hb
    have hj32 := bit_lt hs hj
    have := h j hj32
    rw [b_and, bt_nI s hj32, hj, hb] at this
    cases this
  · intro h i hi
    rw [b_and, bt_nI s hi]
    cases hb : s.testBit i with
    | false => rw [Bool.and_false]
    | true => rw [bt_f (h i hb)]; rfl
theorem bit_0 {s i : Nat} (hi : i < 32) : ((nI s >>> (nI i &&& 31)) &&& 1) = 0 ↔ ¬ s.testBit i = true := by
  rw [b_test _ hi, bt_nI s hi]
  cases s.testBit i <;> simp
theorem Mo_sets_ok {F n : Nat} {t a y z e1 e2 : Int32} {near ia : Nat → Int32} (hn : n ≤ 12) (hF : 5000 < F) : OK (m_Mo_sets F t (nI n) a y z e1 e2 near ia) (fun r => ∀ s, s < 2 ^ n → (r s = 1 ∧ apt near s) ∨ (r s = 0 ∧ ¬ apt near s)) := by
  have hp := pow_le12 hn
  unfold m_Mo_sets
  rw [one_shl hn]
  refine OK_for (2 ^ n) (fun s z => ∃ r : Nat → Int32, z = (nI s, r) ∧ ∀ s', s' < s → (r s' = 1 ∧ apt near s') ∨ (r s' = 0 ∧ ¬ apt near s')) ?_ ?_ F 0 _ (Nat.zero_le _) ⟨ia, rfl, fun s hs => by omega⟩ (by omega)
  · rintro k1 z ⟨r, rfl, h⟩
    try dsimp only
    rw [if_pos (nI_le (Nat.le_refl _) (by omega))]
    exact OK_some h
  · rintro k1 s z hs ⟨r, rfl, h⟩ hk1
    try dsimp only
    rw [if_neg (nI_ge hs (by omega))]
    refine OK_for n (fun i z => (z = (1, nI i) ∧ ∀ i', i' < i → s.testBit i' = true → ∀ j, s.testBit j = true → ¬ bt (near i') j = true) ∨ (z = (0, nI i) ∧ ¬ apt near s)) ?_ ?_ F 0 _ (by omega) (Or.inl ⟨rfl, fun i hi => by omega⟩) (by omega)
    · intro k2 z hz
      have fin : ∀ x : Int32, ((x = 1 ∧ apt near s) ∨ (x = 0 ∧ ¬ apt near s)) → OK (k1 (nI (s + 1), upd r s (vp_nar .boolean x))) (fun r => ∀ s, s < 2 ^ n → (r s = 1 ∧ apt near s) ∨ (r s = 0 ∧ ¬ apt near s)) := by
        intro x hx
        refine hk1 _ ⟨_, rfl, fun s' hs' => ?_⟩
        by_cases e : s' = s
        · subst e
          rw [upd_same]
          rcases hx with ⟨rfl, hx⟩ | ⟨rfl, hx⟩
          · exact Or.inl ⟨rfl, hx⟩
          · exact Or.inr ⟨rfl, hx⟩
        · rw [upd_ne e]; exact h s' (by omega)
      rcases hz with ⟨rfl, hq⟩ | ⟨rfl, hq⟩
      · try dsimp only
        rw [if_pos (nI_le (Nat.le_refl _) (by omega)), gC_t (inb_nI (by omega) (by omega)), gB_eq, nI_1, nI_clamp (by omega)]
        exact fin 1 (Or.inl ⟨rfl, fun i j hi hj => hq i (bit_lt hs hi) hi j hj⟩)
      · try dsimp only
        rw [if_pos (nI_le (Nat.le_refl _) (by omega)), gC_t (inb_nI (by omega) (by omega)), gB_eq, nI_1, nI_clamp (by omega)]
        exact fin 0 (Or.inr ⟨rfl, hq⟩)
    · rintro k2 i z hi (⟨rfl, hq⟩ | ⟨rfl, hq⟩) hk2
      · try dsimp only
        rw [if_neg (nI_ge hi (by omega)), if_neg (show ¬ (1 : Int32) = 0 by decide)]
        refine OK_gB ?_
        try dsimp only
        by_cases hb : s.testBit i = true
        · rw [if_neg (fun w => (bit_0 (by omega)).mp w hb), gC_t (inb_nI (by omega) (by omega)), nI_clamp (by omega)]
          by_cases h0 : (near i) &&& nI s = 0
          · rw [if_pos h0, gB_eq, nI_1]
            exact hk2 _ (Or.inl ⟨rfl, lt_s hq (fun _ => (and0_iff (by omega)).mp h0)⟩)
          · rw [if_neg h0, gB_eq, nI_1]
            exact hk2 _ (Or.inr ⟨rfl, fun w => h0 ((and0_iff (by omega)).mpr (fun j hj => w i j hb hj))⟩)
        · rw [if_pos ((bit_0 (by omega)).mpr hb), gB_eq, nI_1]
          exact hk2 _ (Or.inl ⟨rfl, lt_s hq (fun w => absurd w hb)⟩)
      · try dsimp only
        rw [if_neg (nI_ge hi (by omega)), if_pos rfl, gB_eq, nI_1]
        exact hk2 _ (Or.inr ⟨rfl, hq⟩)
theorem nx_or (a b : Nat) : nI a ||| nI b = nI (a ||| b) := by
  apply Int32.toBitVec_inj.1
  show BitVec.ofNat 32 a ||| BitVec.ofNat 32 b = BitVec.ofNat 32 (a ||| b)
  apply BitVec.eq_of_getLsbD_eq
  intro i hi
  simp [hi]
/-- what may stand at node f + i, the nodes below f having row's colours -/
def alG (near lists row : Nat → Int32) (f i c : Nat) : Prop := bt (lists (f + i)) c = true ∧ ∀ m, m < f → bt (near (f + i)) m = true → ¬ row m = nI c
def nrG (near : Nat → Int32) (f i j : Nat) : Prop := bt (near (f + i)) (f + j) = true
theorem apt_shift {near : Nat → Int32} {f t : Nat} : apt near (t * 2 ^ f) ↔ ∀ i j, t.testBit i = true → t.testBit j = true → ¬ nrG near f i j := by
  rw [← Nat.shiftLeft_eq]
  unfold apt nrG
  constructor
  · intro h i j hi hj
    refine h (f + i) (f + j) ?_ ?_
    · rw [Nat.testBit_shiftLeft, decide_eq_true (by omega), Bool.true_and, Nat.add_sub_cancel_left]; exact hi
    · rw [Nat.testBit_shiftLeft, decide_eq_true (by omega), Bool.true_and, Nat.add_sub_cancel_left]; exact hj
  · intro h i j hi hj
    rw [Nat.testBit_shiftLeft, Bool.and_eq_true, decide_eq_true_iff] at hi hj
    have := h (i - f) (j - f) hi.2 hj.2
    rwa [show f + (i - f) = i by omega, show f + (j - f) = j by omega] at this
def isD (P : Nat → Prop) (x : Int32) (s : Nat) : Prop := (x = 1 ∧ P s) ∨ (x = 0 ∧ ¬ P s)
theorem isD_nar {P : Nat → Prop} {x : Int32} {s : Nat} (h : isD P x s) : vp_nar .boolean x = x := by
  rcases h with ⟨rfl, _⟩ | ⟨rfl, _⟩ <;> rfl
theorem Mo_canGoOn_ok {F n f : Nat} {tt a y zz e1 e2 : Int32} {near lists ia row can could : Nat → Int32} (hn : n ≤ 12) (hf : f ≤ n) (hia : ∀ s, s < 2 ^ n → (ia s = 1 ∧ apt near s) ∨ (ia s = 0 ∧ ¬ apt near s)) (hF : 5000 < F) : OK (m_Mo_canGoOn F tt (nI n) a y zz e1 e2 near lists ia row can could (nI f)) (fun r => isD (DC (alG near lists row f) (nrG near f) 12) r.1 (2 ^ (n - f) - 1)) := by
  have hL := pow_le12 (show n - f ≤ 12 by omega)
  have hL1 : 1 ≤ 2 ^ (n - f) := Nat.one_le_two_pow
  unfold m_Mo_canGoOn
  rw [pk_sub hf, gB_eq, nI_mask (by omega)]
  generalize hPP : (fun r : Int32 × (Nat → Int32) × (Nat → Int32) => isD (DC (alG near lists row f) (nrG near f) 12) r.1 (2 ^ (n - f) - 1)) = PP
  refine OK_for (2 ^ (n - f)) (fun s z => ∃ can : Nat → Int32, z = (nI s, can) ∧ ∀ s', s' < s → isD (DC (alG near lists row f) (nrG near f) 0) (can s') s') ?_ ?_ F 0 _ (by omega) ⟨can, rfl, fun s hs => by omega⟩ (by omega)
  · rintro k1 z ⟨can, rfl, hcan⟩
    try dsimp only
    rw [if_pos (nI_lt (by omega) (by omega))]
    refine OK_for 12 (fun c z => ∃ can could : Nat → Int32, z = (nI c, can, could) ∧ ∀ s', s' < 2 ^ (n - f) → isD (DC (alG near lists row f) (nrG near f) c) (can s') s') ?_ ?_ F 0 _ (by omega) ⟨can, could, rfl, hcan⟩ (by omega)
    · rintro k2 z ⟨can, could, rfl, hcan⟩
      try dsimp only
      have h0 := hcan (2 ^ (n - f) - 1) (by omega)
      rw [if_pos (show (12 : Int32) ≤ nI 12 from nI_le (Nat.le_refl _) (by omega)), gC_t (inb_nI (by omega) (by omega)), nI_clamp (by omega), gC_t (show bzB (can (2 ^ (n - f) - 1)) = true by rcases h0 with ⟨h0, _⟩ | ⟨h0, _⟩ <;> rw [h0] <;> decide), ← hPP]
      exact OK_some h0
    · rintro k2 c z hc ⟨can, could, rfl, hcan⟩ hk2
      try dsimp only
      rw [if_neg (show ¬ (12 : Int32) ≤ nI c from nI_ge (a := c) (b := 12) hc (by omega))]
      refine OK_for n (fun x z => ∃ may : Nat, z = (nI may, nI x) ∧ f ≤ x ∧ may < 2 ^ (n - f) ∧ ∀ i, (may.testBit i = true ↔ f + i < x ∧ alG near lists row f i c)) ?_ ?_ F f _ hf ⟨0, rfl, Nat.le_refl _, by omega, fun i => by rw [Nat.zero_testBit]; exact ⟨fun w => (by cases w), fun w => by omega⟩⟩ (by omega)
      · rintro k3 z ⟨may, rfl, -, hml, hmay⟩
        try dsimp only
        rw [if_pos (nI_le (Nat.le_refl _) (by omega))]
        refine OK_for (2 ^ (n - f)) (fun s z => ∃ could : Nat → Int32, z = (nI s, could) ∧ ∀ s', s' < s → isD (DC (alG near lists row f) (nrG near f) (c + 1)) (could s') s') ?_ ?_ F 0 _ (by omega) ⟨could, rfl, fun s hs => by omega⟩ (by omega)
        · rintro k4 z ⟨could, rfl, hco⟩
          try dsimp only
          rw [if_pos (nI_lt (by omega) (by omega))]
          refine OK_for (2 ^ (n - f)) (fun s z => ∃ can : Nat → Int32, z = (nI s, can) ∧ ∀ s', s' < s → isD (DC (alG near lists row f) (nrG near f) (c + 1)) (can s') s') ?_ ?_ F 0 _ (by omega) ⟨can, rfl, fun s hs => by omega⟩ (by omega)
          · rintro k5 z ⟨can2, rfl, hc2⟩
            try dsimp only
            rw [if_pos (nI_lt (by omega) (by omega)), gB_eq, nI_1]
            exact hk2 _ ⟨can2, could, rfl, hc2⟩
          · rintro k5 s z hs ⟨can2, rfl, hc2⟩ hk5
            try dsimp only
            rw [if_neg (nI_nlt (by omega) (by omega)), gC_t (inb_nI (by omega) (by omega)), gC_t (inb_nI (by omega) (by omega)), gB_eq, nI_1, nI_clamp (by omega)]
            refine hk5 _ ⟨_, rfl, fun s' hs' => ?_⟩
            by_cases e : s' = s
            · subst e; rw [upd_same, isD_nar (hco s' (by omega))]; exact hco s' (by omega)
            · rw [upd_ne e]; exact hc2 s' (by omega)
        · rintro k4 s z hs ⟨could, rfl, hco⟩ hk4
          try dsimp only
          rw [if_neg (nI_nlt (by omega) (by omega)), gC_t (inb_nI (by omega) (by omega)), gC_t (inb_nI (by omega) (by omega)), nx_and, gB_eq, nI_clamp (by omega), isD_nar (hcan s hs)]
          have hsm : s &&& may < 2 ^ (n - f) := Nat.lt_of_le_of_lt Nat.and_le_left hs
          refine OK_gLm (fun m z => ∃ (t : Nat) (co : Nat → Int32), z = (nI t, co) ∧ m = t ∧ sbN t (s &&& may) ∧ (∀ s', s' < s → isD (DC (alG near lists row f) (nrG near f) (c + 1)) (co s') s') ∧ ((co s = 1 ∧ DC (alG near lists row f) (nrG near f) (c + 1) s) ∨ (co s = 0 ∧ ¬ DC (alG near lists row f) (nrG near f) c s ∧ ∀ t', t < t' → sbN t' (s &&& may) → okT (alG near lists row f) (nrG near f) c t' → ¬ DC (alG near lists row f) (nrG near f) c (s ^^^ t')))) ?_ F (s &&& may) _ ⟨s &&& may, _, rfl, rfl, sbN_refl _, fun s' hs' => by rw [upd_ne (by omega)]; exact hco s' hs', ?_⟩ (by omega)
          · rintro k5 t z ⟨_, co, rfl, rfl, htm, hco2, hst⟩ hk5
            have htl : t < 2 ^ (n - f) := Nat.lt_of_le_of_lt (sbN_le htm) hsm
            try dsimp only
            have next : isD (DC (alG near lists row f) (nrG near f) (c + 1)) (co s) s → OK (k4 (nI (s + 1), co)) PP := fun w => hk4 _ ⟨co, rfl, lt_s hco2 w⟩
            by_cases ht0 : t = 0
            · subst ht0
              rw [if_pos (show nI 0 ≤ 0 by decide), gB_eq, nI_1]
              refine next ?_
              rcases hst with hst | ⟨h1, h2, h3⟩
              · exact Or.inl hst
              · refine Or.inr ⟨h1, fun w => ?_⟩
                rcases (DC_step (n := n - f) hs).mp w with w | ⟨t', w1, w2, w3, w4⟩
                · exact h2 w
                · refine h3 t' w1 (fun i hi => ?_) w3 w4
                  rw [Nat.testBit_and, Bool.and_eq_true]
                  refine ⟨w2 i hi, (hmay i).mpr ⟨?_, w3.1 i hi⟩⟩
                  have := bit_lt hs (w2 i hi)
                  omega
            · rw [if_neg (show ¬ nI t ≤ 0 from nI_ge (a := 0) (b := t) (by omega) (by omega)), gC_t (inb_nI (by omega) (by omega))]
              rcases hst with ⟨h1, h2⟩ | ⟨h1, h2, h3⟩
              · rw [if_neg (by rw [h1]; decide), gB_eq, nI_1]
                exact next (Or.inl ⟨h1, h2⟩)
              · rw [if_pos h1]
                have hpf : 2 ^ (n - f) * 2 ^ f = 2 ^ n := by rw [← Nat.pow_add]; congr 1; omega
                have h4096 := pow_le12 hn
                have hts : t * 2 ^ f < 2 ^ n := by rw [← hpf]; exact Nat.mul_lt_mul_of_pos_right htl (Nat.pow_pos (by omega))
                have hshl : nI t <<< (nI f &&& 31) = nI (t * 2 ^ f) := pk_shlN _ f (s_l f (by omega)) (by omega)
                have hxl : s ^^^ t < 2 ^ (n - f) := Nat.xor_lt_two_pow hs htl
                rw [hshl, gC_t (inb_nI (by omega) (by omega)), nI_clamp (by omega)]
                have hsb : sbN t s := sbN_trans htm and_sbN'
                have hal : ∀ i, t.testBit i = true → alG near lists row f i c := fun i hi => ((hmay i).mp (by have := htm i hi; rw [Nat.testBit_and, Bool.and_eq_true] at this; exact this.2)).2
                have e1 : ((nI t - 1) &&& nI s) &&& nI may = nI ((t - 1) &&& (s &&& may)) := by
                  rw [show nI t - 1 = nI (t - 1) from pk_sub (b := 1) (by omega), nx_and, nx_and, Nat.and_assoc]
                have hlt : (t - 1) &&& (s &&& may) < t := Nat.lt_of_le_of_lt Nat.and_le_left (by omega)
                refine OK_gBQ (fun J => ∀ b : Int32, ((b = 1 ∧ DC (alG near lists row f) (nrG near f) (c + 1) s) ∨ (b = 0 ∧ (okT (alG near lists row f) (nrG near f) c t → ¬ DC (alG near lists row f) (nrG near f) c (s ^^^ t)))) → OK (J b) PP) ?_ ?_
                · intro b hb
                  try dsimp only
                  rw [gC_t (inb_nI (by omega) (by omega)), gB_eq, e1]
                  have hnb : vp_nar .boolean b = b := by rcases hb with ⟨rfl, _⟩ | ⟨rfl, _⟩ <;> rfl
                  rw [hnb]
                  refine hk5 _ _ hlt ⟨_, _, rfl, rfl, and_sbN, fun s' hs' => by rw [upd_ne (by omega)]; exact hco2 s' hs', ?_⟩
                  rw [upd_same]
                  rcases hb with ⟨rfl, hb⟩ | ⟨rfl, hb⟩
                  · exact Or.inl ⟨rfl, hb⟩
                  · refine Or.inr ⟨rfl, h2, fun t' l1 l2 l3 => ?_⟩
                    rcases Nat.lt_trichotomy t' t with q | q | q
                    · have := prevSub t (s &&& may) t' (sbN_and htm) (sbN_and l2) q
                      omega
                    · subst q; exact hb l3
                    · exact h3 t' q l2 l3
                · intro J hJ
                  try dsimp only
                  refine OK_gB ?_
                  try dsimp only
                  rcases hia (t * 2 ^ f) hts with ⟨i1, i2⟩ | ⟨i1, i2⟩
                  · rw [if_neg (by rw [i1]; decide), nx_xor, gC_t (inb_nI (by omega) (by omega)), nI_clamp (by omega)]
                    have hok : okT (alG near lists row f) (nrG near f) c t := ⟨hal, apt_shift.mp i2⟩
                    rcases hcan (s ^^^ t) hxl with ⟨j1, j2⟩ | ⟨j1, j2⟩
                    · rw [if_neg (by rw [j1]; decide)]
                      exact hJ 1 (Or.inl ⟨rfl, DC_put hsb hok j2⟩)
                    · rw [if_pos j1]
                      exact hJ 0 (Or.inr ⟨rfl, fun _ => j2⟩)
                  · rw [if_pos i1]
                    exact hJ 0 (Or.inr ⟨rfl, fun w => absurd (apt_shift.mpr w.2) i2⟩)
          · rw [upd_same]
            rcases hcan s hs with ⟨h1, h2⟩ | ⟨h1, h2⟩
            · exact Or.inl ⟨h1, DC_mono (by omega) h2⟩
            · refine Or.inr ⟨h1, h2, fun t' l1 l2 => ?_⟩
              have := sbN_le l2
              omega
      · rintro k3 x z hx ⟨may, rfl, hfx, hml, hmay⟩ hk3
        · try dsimp only
          rw [if_neg (nI_ge hx (by omega)), gC_t (inb_nI (by omega) (by omega)), nI_clamp (by omega)]
          have hxf : f + (x - f) = x := by omega
          refine OK_gBQ (fun J => ∀ b : Int32, isD (fun _ => bt (lists x) c = true) b 0 → OK (J b) PP) ?_ ?_
          · intro b hb
            try dsimp only
            refine OK_for f (fun m z => (z = (1, nI m) ∧ bt (lists x) c = true ∧ ∀ m', m' < m → bt (near x) m' = true → ¬ row m' = nI c) ∨ (z = (0, nI m) ∧ ¬ alG near lists row f (x - f) c)) ?_ ?_ F 0 _ (by omega) ?_ (by omega)
            · have pw : 2 ^ (x - f) < 2 ^ (n - f) := Nat.pow_lt_pow_right (by omega) (by omega)
              rintro k4 z (⟨rfl, h1, h2⟩ | ⟨rfl, h1⟩)
              · try dsimp only
                rw [if_pos (nI_le (Nat.le_refl _) (by omega)), if_neg (show ¬ (1 : Int32) = 0 by decide), pk_sub hfx, one_shl (by omega), nx_or, gB_eq, gB_eq, nI_1]
                refine hk3 _ ⟨_, rfl, by omega, Nat.or_lt_two_pow hml pw, fun i => ?_⟩
                rw [Nat.testBit_or, Bool.or_eq_true, hmay i, Nat.testBit_two_pow, decide_eq_true_iff]
                constructor
                · rintro (w | rfl)
                  · exact ⟨by omega, w.2⟩
                  · refine ⟨by omega, ?_⟩
                    unfold alG
                    rw [hxf]
                    exact ⟨h1, h2⟩
                · intro w
                  by_cases e : f + i < x
                  · exact Or.inl ⟨e, w.2⟩
                  · exact Or.inr (by omega)
              · try dsimp only
                rw [if_pos (nI_le (Nat.le_refl _) (by omega)), if_pos rfl, gB_eq, gB_eq, nI_1]
                refine hk3 _ ⟨may, by rw [show nI may ||| 0 = nI may from nx_or may 0 |>.trans (by rw [Nat.or_zero])], by omega, hml, fun i => ?_⟩
                rw [hmay i]
                constructor
                · exact fun w => ⟨by omega, w.2⟩
                · intro w
                  refine ⟨?_, w.2⟩
                  by_cases e : f + i = x
                  · exact absurd (by rw [show x - f = i by omega]; exact w.2) h1
                  · omega
            · rintro k4 m z hm (⟨rfl, h1, h2⟩ | ⟨rfl, h1⟩) hk4
              · try dsimp only
                rw [if_neg (nI_ge hm (by omega)), if_neg (show ¬ (1 : Int32) = 0 by decide), gC_t (inb_nI (by omega) (by omega))]
                refine OK_gB ?_
                try dsimp only
                by_cases hb2 : bt (near x) m = true
                · rw [if_pos ((bit_one (near x) (by omega)).mpr hb2), gC_t (inb_nI (by omega) (by omega)), nI_clamp (by omega)]
                  by_cases hr : row m = nI c
                  · rw [if_pos hr, gB_eq, nI_1]
                    refine hk4 _ (Or.inr ⟨rfl, fun w => ?_⟩)
                    unfold alG at w
                    rw [hxf] at w
                    exact w.2 m hm hb2 hr
                  · rw [if_neg hr, gB_eq, nI_1]
                    exact hk4 _ (Or.inl ⟨rfl, h1, lt_s h2 (fun _ => hr)⟩)
                · rw [if_neg (fun w => hb2 ((bit_one (near x) (by omega)).mp w)), gB_eq, nI_1]
                  exact hk4 _ (Or.inl ⟨rfl, h1, lt_s h2 (fun w => absurd w hb2)⟩)
              · try dsimp only
                rw [if_neg (nI_ge hm (by omega)), if_pos rfl, gB_eq, nI_1]
                exact hk4 _ (Or.inr ⟨rfl, h1⟩)
            · rcases hb with ⟨rfl, hb⟩ | ⟨rfl, hb⟩
              · exact Or.inl ⟨rfl, hb, fun m hm => by omega⟩
              · refine Or.inr ⟨rfl, fun w => hb ?_⟩
                unfold alG at w
                rw [hxf] at w
                exact w.1
          · intro J hJ
            try dsimp only
            by_cases hb : bt (lists x) c = true
            · rw [if_pos ((bit_one (lists x) (by omega)).mpr hb)]
              exact hJ 1 (Or.inl ⟨rfl, hb⟩)
            · rw [if_neg (fun w => hb ((bit_one (lists x) (by omega)).mp w))]
              exact hJ 0 (Or.inr ⟨rfl, hb⟩)
  · rintro k1 s z hs ⟨can, rfl, hcan⟩ hk1
    try dsimp only
    rw [if_neg (nI_nlt (by omega) (by omega))]
    refine OK_gBQ (fun J => ∀ b : Int32, isD (DC (alG near lists row f) (nrG near f) 0) b s → OK (J b) PP) ?_ ?_
    · intro b hb
      try dsimp only
      rw [gC_t (inb_nI (by omega) (by omega)), gB_eq, nI_1, nI_clamp (by omega), isD_nar hb]
      refine hk1 _ ⟨_, rfl, fun s' hs' => ?_⟩
      by_cases e : s' = s
      · subst e; rw [upd_same]; exact hb
      · rw [upd_ne e]; exact hcan s' (by omega)
    · intro J hJ
      try dsimp only
      by_cases h0 : s = 0
      · rw [if_pos (show nI s = 0 by rw [h0]; rfl)]
        exact hJ 1 (Or.inl ⟨rfl, DC_0.mpr h0⟩)
      · rw [if_neg (nI_nz h0 (by omega))]
        exact hJ 0 (Or.inr ⟨rfl, fun w => h0 (DC_0.mp w)⟩)
