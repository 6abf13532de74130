/-! PURE, 39: why, both sides; listed of the reference -/
theorem LI_toInt {z : Int} (h0 : 0 ≤ z) (h1 : z < 2 ^ 63) : (LI z).toInt = z := Int64.toInt_ofInt_of_le (by omega) h1
theorem cmp_le0 {z : Int} (h0 : 0 ≤ z) (h1 : z < 2 ^ 63) : lg_cmp (LI z) 0 ≤ 0 ↔ ¬ 0 < z := by
  unfold lg_cmp
  by_cases h : 0 < z
  · have hg : LI z > 0 := by
      show (0 : Int64) < LI z
      rw [Int64.lt_iff_toInt_lt, LI_toInt h0 h1]
      exact h
    rw [if_pos hg]
    exact ⟨fun w => absurd w (by decide), fun w => absurd h w⟩
  · have hz : z = 0 := by omega
    subst hz
    exact ⟨fun _ => h, fun _ => by decide⟩
theorem cmp_eq0 {z : Int} (h0 : 0 ≤ z) (h1 : z < 2 ^ 63) : lg_cmp (LI z) 0 = 0 ↔ ¬ 0 < z := by
  unfold lg_cmp
  by_cases h : 0 < z
  · have hg : LI z > 0 := by
      show (0 : Int64) < LI z
      rw [Int64.lt_iff_toInt_lt, LI_toInt h0 h1]
      exact h
    rw [if_pos hg]
    exact ⟨fun w => absurd w (by decide), fun w => absurd h w⟩
  · have hz : z = 0 := by omega
    subst hz
    exact ⟨fun _ => h, fun _ => by decide⟩
def rmB (s v : Nat) : Nat := s ^^^ (s &&& 2 ^ v)
theorem rmB_bit {s v i : Nat} : (rmB s v).testBit i = true ↔ s.testBit i = true ∧ ¬ i = v := by
  unfold rmB
  rw [Nat.testBit_xor, Nat.testBit_and, Nat.testBit_two_pow]
  by_cases e : v = i
  · rw [decide_eq_true e]
    subst e
    cases s.testBit v <;> simp
  · rw [decide_eq_false e]
    have e' : ¬ i = v := fun w => e w.symm
    cases s.testBit i <;> simp [e']
theorem rmB_lt {n s v : Nat} (h : s < 2 ^ n) : rmB s v < 2 ^ n := by
  apply Nat.lt_pow_two_of_testBit
  intro i hi
  cases hb : (rmB s v).testBit i with
  | false => rfl
  | true =>
    have := (rmB_bit.mp hb).1
    rw [bit_ge h hi] at this; cases this
theorem rmB_nI {n s v : Nat} (hs : s < 2 ^ n) (hv : v < 32) : nI s &&& (((1 : Int32) <<< (nI v &&& 31)) ^^^ (-1)) = nI (rmB s v) := by
  apply b_ext
  intro i hi
  rw [b_rm _ hv hi, bt_nI s hi, bt_nI _ hi]
  have := rmB_bit (s := s) (v := v) (i := i)
  by_cases e : i = v
  · subst e
    rw [decide_eq_true rfl]
    cases hb : (rmB s i).testBit i with
    | false => cases s.testBit i <;> rfl
    | true => rw [hb] at this; exact absurd rfl (this.mp rfl).2
  · rw [decide_eq_false e]
    cases hb : (rmB s v).testBit i with
    | false =>
      cases hs2 : s.testBit i with
      | false => rfl
      | true => rw [hb, hs2] at this; exact absurd (this.mpr ⟨rfl, e⟩) (by decide)
    | true => rw [hb] at this; rw [(this.mp rfl).1]; rfl
noncomputable def whyF (D : Nat → Prop) : Nat → Nat → Nat
  | 0, s => s
  | v + 1, s => @ite Nat (D (rmB s v)) (Classical.propDecidable _) (whyF D v s) (whyF D v (rmB s v))
noncomputable def whyIs (near lists : Nat → Int32) (n : Nat) : Nat := @ite Nat (DC (al0 lists) (nr0 near) 12 (2 ^ n - 1)) (Classical.propDecidable _) 0 (whyF (DC (al0 lists) (nr0 near) 12) n (2 ^ n - 1))
theorem Mo_why_ok {F n : Nat} {tt a y zz e1 e2 : Int32} {near lists ia : Nat → Int32} {ways next : Nat → Int64} (hn : n ≤ 12) (hw : ¬ e2 = 0 → waysOK near lists n ways) (hF : 5000 < F) : OK (m_Mo_why F tt (nI n) a y zz e1 e2 near lists ia ways next) (fun r => r.1 = nI (whyIs near lists n) ∧ r.2.1 = 0 ∧ ¬ r.2.2.1 = 0 ∧ waysOK near lists n r.2.2.2.2.1) := by
  have hp := pow_le12 hn
  have hp1 : 1 ≤ 2 ^ n := Nat.one_le_two_pow
  unfold m_Mo_why
  refine OK_gM (Mo_byLists_ok hn hw hF) ?_
  rintro ⟨h2, ia2, ways2, next2⟩ ⟨g1, g2⟩
  try dsimp only at g1 g2 ⊢
  rw [gB_eq, nI_mask hn, gC_t (inb_nI (by omega) (by omega)), nI_clamp (by omega), g2 _ (by omega)]
  have hD : ∀ s, s < 2 ^ n → (0 < wy (al0 lists) (nr0 near) n 12 s ↔ DC (al0 lists) (nr0 near) 12 s) := fun s hs => wy_pos 12 s hs
  by_cases h0 : DC (al0 lists) (nr0 near) 12 (2 ^ n - 1)
  · rw [if_neg (fun w => (cmp_le0 (wy_nn 12 _ (by omega)) (wy_big hn (by omega))).mp w ((hD _ (by omega)).mpr h0))]
    refine OK_some ⟨?_, rfl, g1, g2⟩
    unfold whyIs
    rw [if_pos h0]; rfl
  · rw [if_pos ((cmp_le0 (wy_nn 12 _ (by omega)) (wy_big hn (by omega))).mpr (fun w => h0 ((hD _ (by omega)).mp w)))]
    refine OK_gBx ?_
    intro x hx
    have ewhy : whyIs near lists n = whyF (DC (al0 lists) (nr0 near) 12) n (2 ^ n - 1) := by unfold whyIs; rw [if_neg h0]
    rw [ewhy]
    refine OK_gLm (fun m z => ∃ s : Nat, (z = (nI s, nI m - 1)) ∧ m ≤ 12 ∧ s < 2 ^ n ∧ whyF (DC (al0 lists) (nr0 near) 12) m s = whyF (DC (al0 lists) (nr0 near) 12) n (2 ^ n - 1)) ?_ F n _ ⟨2 ^ n - 1, by rw [hx], hn, by omega, rfl⟩ (by omega)
    rintro k1 m z ⟨s, rfl, hm, hs, hwh⟩ hk1
    try dsimp only
    cases m with
    | zero =>
      rw [if_pos (show nI 0 - 1 < 0 by decide)]
      refine OK_some ⟨?_, rfl, g1, g2⟩
      rw [← hwh]; rfl
    | succ v =>
      have e : nI (v + 1) - 1 = nI v := pk_sub (b := 1) (by omega)
      have e' : nI v + (-1) = nI v - 1 := by
        have := need_le v (by omega) 0 (by omega)
        rw [show nI v - nI 0 = nI v from pk_sub (b := 0) (by omega)] at this
        exact this.2
      rw [e, if_neg (show ¬ nI v < 0 from nI_nlt (a := v) (b := 0) (Nat.zero_le _) (by omega)), gB_eq, rmB_nI hs (by omega)]
      have hr := rmB_lt (v := v) hs
      rw [gC_t (inb_nI (by omega) (by omega)), nI_clamp (by omega), g2 _ hr, gB_eq, gB_eq, e']
      have hwh' : @ite Nat (DC (al0 lists) (nr0 near) 12 (rmB s v)) (Classical.propDecidable _) (whyF (DC (al0 lists) (nr0 near) 12) v s) (whyF (DC (al0 lists) (nr0 near) 12) v (rmB s v)) = whyF (DC (al0 lists) (nr0 near) 12) n (2 ^ n - 1) := hwh
      by_cases hd : DC (al0 lists) (nr0 near) 12 (rmB s v)
      · rw [if_pos hd] at hwh'
        rw [if_neg (fun w => (cmp_eq0 (wy_nn 12 _ hr) (wy_big hn hr)).mp w ((hD _ hr).mpr hd))]
        exact hk1 v _ (by omega) ⟨s, rfl, by omega, hs, hwh'⟩
      · rw [if_neg hd] at hwh'
        rw [if_pos ((cmp_eq0 (wy_nn 12 _ hr) (wy_big hn hr)).mpr (fun w => hd ((hD _ hr).mp w)))]
        exact hk1 v _ (by omega) ⟨_, rfl, by omega, hr, hwh'⟩
theorem Mo_listed_ok {F n : Nat} {tt a y zz e1 e2 : Int32} {near lists ia : Nat → Int32} {ways next : Nat → Int64} (hn : n ≤ 12) (hw : ¬ e2 = 0 → waysOK near lists n ways) (hF : 5000 < F) : OK (m_Mo_listed F tt (nI n) a y zz e1 e2 near lists ia ways next) (fun r => r.1 = LI (wy (al0 lists) (nr0 near) n 12 (2 ^ n - 1)) ∧ r.2.1 = 0 ∧ ¬ r.2.2.1 = 0 ∧ waysOK near lists n r.2.2.2.2.1) := by
  have hp := pow_le12 hn
  have hp1 : 1 ≤ 2 ^ n := Nat.one_le_two_pow
  unfold m_Mo_listed
  refine OK_gM (Mo_byLists_ok hn hw hF) ?_
  rintro ⟨h2, ia2, ways2, next2⟩ ⟨g1, g2⟩
  try dsimp only at g1 g2 ⊢
  rw [nI_mask hn, gC_t (inb_nI (by omega) (by omega)), nI_clamp (by omega)]
  exact OK_some ⟨g2 _ (by omega), rfl, g1, g2⟩
theorem Pt_DC {near near' lists row : Nat → Int32} {n s s0 : Nat} {ev : Prop} {u : Nat → Nat} (hn : n ≤ 12) (hs : s < 2 ^ n) (hnr : ∀ i, i < n → near' i = near i) (hrow : ∀ i, i < n → row i = lists i) (hev : ¬ ev) : (∃ g, Pt (bt2 near') (bt2 row) n 12 (btT (nI s)) ev s0 u g) ↔ DC (al0 lists) (nr0 near) 12 s := by
  have hb : ∀ i, i < n → (btT (nI s) i = true ↔ s.testBit i = true) := fun i hi => by show bt (nI s) i = true ↔ _; rw [bt_nI s (by omega)]
  constructor
  · rintro ⟨g, p1, p2, -⟩
    refine ⟨g, fun i hi => ?_, fun i j hi hj hr => ?_⟩
    · have hin := bit_lt hs hi
      obtain ⟨a, b⟩ := p1 i hin ((hb i hin).mpr hi)
      exact ⟨a, by show bt (lists i) _ = true; rw [← hrow i hin]; exact b⟩
    · have h1 := bit_lt hs hi
      have h2 := bit_lt hs hj
      exact p2 i j h1 h2 ((hb i h1).mpr hi) ((hb j h2).mpr hj) (by show bt (near' i) j = true; rw [hnr i h1]; exact hr)
  · rintro ⟨g, p1, p2⟩
    refine ⟨g, fun i hi ht => ?_, fun i j hi hj hti htj hr => ?_, fun q => absurd q hev⟩
    · obtain ⟨a, b⟩ := p1 i ((hb i hi).mp ht)
      exact ⟨a, by show bt (row i) _ = true; rw [hrow i hi]; exact b⟩
    · exact p2 i j ((hb i hi).mp hti) ((hb j hj).mp htj) (by show bt (near i) j = true; rw [← hnr i hi]; exact hr)
theorem CS_hasList_ok {F n ka s : Nat} {b1 b2 a1 a2 a3 a4 a5 a6 : Int32} {near tail head pnear uses al : Nat → Int32} {free : Nat → Nat → Int32} (h : GR n ka near tail head) (hal : ∀ i, i < n → ∀ c, 12 ≤ c → c < 32 → bt (al i) c = false) (hs : s < 2 ^ n) (hF : 100 < F) : OK (m_CS_hasListColouring F (nI n) b1 b2 near a1 a2 a3 a4 a5 a6 pnear uses al free (nI s)) (fun r => isD (DC (al0 al) (nr0 near) 12) r.1 s) := by
  have hn := h.1
  have hnr : ∀ i, i < n → va_cpy near pnear 0 0 n i = near i := fun i hi => sb_cpy0 hi
  have hrow : ∀ i, i < n → gF free 0 (va_cpy al (free 0) 0 0 n) 0 i = al i := fun i hi => by rw [gF_at]; exact sb_cpy0 hi
  have hT : inN n (nI s) := fun i hi hb => by rw [bt_nI s hi] at hb; exact bit_lt hs hb
  have hc : ∀ Q, cT (btT (nI s)) Q ≤ Q := by
    intro Q
    induction Q with
    | zero => exact Nat.le_refl _
    | succ Q ih =>
      rw [cT_s]
      by_cases h : btT (nI s) Q = true
      · rw [if_pos h]; omega
      · rw [if_neg h]; omega
  have hcn := hc n
  unfold m_CS_hasListColouring
  refine OK_gM (P' := fun a => a = _) ⟨_, Pai_startLists_eq hn, rfl⟩ ?_
  rintro _ rfl
  try dsimp only
  have hp := Pai_paintable_ok (F := F) (N := n) (K := 12) (s := 16) (o := 0) (e0 := 0) (sh := 16) (bi := 0) (near := va_cpy near pnear 0 0 n) (by omega) (fun i j hi hj hb => by rw [hnr i hi] at hb; rw [hnr j hj]; exact GR_sym' h i j hi hj hb) (fun i hi hb => by rw [hnr i hi] at hb; exact GR_irr h i hi hb) hF 18 0 (nI s) 0 (fun _ => 0) (fillA 12 0 uses) (gF free 0 (va_cpy al (free 0) 0 0 n)) (by omega) (by omega) hT (fun i hi _ c h1 h2 => by rw [hrow i hi]; exact hal i hi c h1 h2) ⟨by omega, fun _ => rfl, fun q => absurd rfl q⟩
  unfold m_Pai_canPaint
  refine OK_gM (P' := fun r : Int32 × Int32 × (Nat → Int32) × (Nat → Nat → Int32) => isD (DC (al0 al) (nr0 near) 12) r.1 s) (OK_gM hp ?_) ?_
  · rintro ⟨q, bn, us, fr⟩ ⟨-, -, -, g⟩
    try dsimp only at g ⊢
    rw [Pt_DC hn hs hnr hrow (fun q => q rfl)] at g
    exact OK_some g
  · rintro ⟨q, bn, us, fr⟩ g
    exact OK_some g
theorem CS_why_ok {F n ka : Nat} {b1 b2 a1 a2 a3 a4 a5 a6 : Int32} {near tail head pnear uses al : Nat → Int32} {free : Nat → Nat → Int32} (h : GR n ka near tail head) (hal : ∀ i, i < n → ∀ c, 12 ≤ c → c < 32 → bt (al i) c = false) (hF : 100 < F) : OK (m_CS_why F (nI n) b1 b2 near a1 a2 a3 a4 a5 a6 pnear uses al free) (fun r => r.1 = nI (whyIs near al n)) := by
  have hn := h.1
  have hp := pow_le12 hn
  have hp1 : 1 ≤ 2 ^ n := Nat.one_le_two_pow
  unfold m_CS_why
  refine OK_gM (P' := fun a => a = nI (2 ^ n - 1)) ⟨_, rfl, by show ((1 : Int32) <<< (nI n &&& 31)) - 1 = _; exact nI_mask hn⟩ ?_
  rintro _ rfl
  refine OK_gM (CS_hasList_ok h hal (by omega) hF) ?_
  rintro ⟨q, a1, a2, a3, a4, a5, a6, pn, us, fr⟩ hq
  try dsimp only at hq ⊢
  rcases hq with ⟨rfl, hq⟩ | ⟨rfl, hq⟩
  · rw [if_neg (show ¬ (1 : Int32) = 0 by decide)]
    refine OK_some ?_
    unfold whyIs
    rw [if_pos hq]; rfl
  · rw [if_pos rfl]
    refine OK_gBx ?_
    intro x hx
    have ewhy : whyIs near al n = whyF (DC (al0 al) (nr0 near) 12) n (2 ^ n - 1) := by unfold whyIs; rw [if_neg hq]
    rw [ewhy]
    refine OK_gLm (fun m z => ∃ (s : Nat) (a1 a2 a3 a4 a5 a6 : Int32) (pn us : Nat → Int32) (fr : Nat → Nat → Int32), (z = (nI s, nI m - 1, a1, a2, a3, a4, a5, a6, pn, us, fr)) ∧ m ≤ 12 ∧ s < 2 ^ n ∧ whyF (DC (al0 al) (nr0 near) 12) m s = whyF (DC (al0 al) (nr0 near) 12) n (2 ^ n - 1)) ?_ F n _ ⟨2 ^ n - 1, a1, a2, a3, a4, a5, a6, pn, us, fr, by rw [hx], hn, by omega, rfl⟩ (by omega)
    rintro k1 m z ⟨s, a1, a2, a3, a4, a5, a6, pn, us, fr, rfl, hm, hs, hwh⟩ hk1
    try dsimp only
    cases m with
    | zero =>
      rw [if_pos (show nI 0 - 1 < 0 by decide)]
      refine OK_some ?_
      rw [← hwh]; rfl
    | succ v =>
      have e : nI (v + 1) - 1 = nI v := pk_sub (b := 1) (by omega)
      have e' : nI v + (-1) = nI v - 1 := by
        have := need_le v (by omega) 0 (by omega)
        rw [show nI v - nI 0 = nI v from pk_sub (b := 0) (by omega)] at this
        exact this.2
      rw [e, if_neg (show ¬ nI v < 0 from nI_nlt (a := v) (b := 0) (Nat.zero_le _) (by omega)), gB_eq, rmB_nI hs (by omega)]
      have hr := rmB_lt (v := v) hs
      refine OK_gM (CS_hasList_ok h hal hr hF) ?_
      rintro ⟨q, a1, a2, a3, a4, a5, a6, pn, us, fr⟩ hq
      try dsimp only at hq ⊢
      have hwh' : @ite Nat (DC (al0 al) (nr0 near) 12 (rmB s v)) (Classical.propDecidable _) (whyF (DC (al0 al) (nr0 near) 12) v s) (whyF (DC (al0 al) (nr0 near) 12) v (rmB s v)) = whyF (DC (al0 al) (nr0 near) 12) n (2 ^ n - 1) := hwh
      rcases hq with ⟨rfl, hd⟩ | ⟨rfl, hd⟩
      · rw [if_pos hd] at hwh'
        rw [if_neg (show ¬ (1 : Int32) = 0 by decide), gB_eq, e']
        exact hk1 v _ (by omega) ⟨s, _, _, _, _, _, _, _, _, _, rfl, by omega, hs, hwh'⟩
      · rw [if_neg hd] at hwh'
        rw [if_pos rfl, gB_eq, e']
        exact hk1 v _ (by omega) ⟨_, _, _, _, _, _, _, _, _, _, rfl, by omega, hr, hwh'⟩
