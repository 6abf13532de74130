/-! PURE, 7: turning -/
def trn (at_ : Nat → Int32) (own col ch : Int32) (i : Nat) : Nat → Int32 := fun v => if v < i ∧ bt ch v = true then (if at_ v = own then col else own) else at_ v
theorem trn_0 {at_ : Nat → Int32} {own col ch : Int32} : trn at_ own col ch 0 = at_ := by
  funext v
  unfold trn
  rw [if_neg (fun q => by omega)]
theorem trn_at {at_ : Nat → Int32} {own col ch : Int32} {i v : Nat} (h : i ≤ v) : trn at_ own col ch i v = at_ v := by
  unfold trn
  rw [if_neg (fun q => by omega)]
theorem trn_up {at_ : Nat → Int32} {own col ch : Int32} {i : Nat} (h : bt ch i = true) : upd (trn at_ own col ch i) i (if at_ i = own then col else own) = trn at_ own col ch (i + 1) := by
  funext v
  unfold trn
  by_cases hv : v = i
  · subst hv
    rw [upd_same, if_pos (show v < v + 1 ∧ bt ch v = true from ⟨by omega, h⟩)]
  · rw [upd_ne hv]
    by_cases hc : v < i ∧ bt ch v = true
    · rw [if_pos hc, if_pos (show v < i + 1 ∧ bt ch v = true from ⟨by omega, hc.2⟩)]
    · rw [if_neg hc, if_neg (show ¬ (v < i + 1 ∧ bt ch v = true) from fun q => hc ⟨by omega, q.2⟩)]
theorem trn_no {at_ : Nat → Int32} {own col ch : Int32} {i : Nat} (h : bt ch i = false) : trn at_ own col ch (i + 1) = trn at_ own col ch i := by
  funext v
  unfold trn
  by_cases hc : v < i ∧ bt ch v = true
  · rw [if_pos hc, if_pos (show v < i + 1 ∧ bt ch v = true from ⟨by omega, hc.2⟩)]
  · have hn : ¬ (v < i + 1 ∧ bt ch v = true) := by
      rintro ⟨q1, q2⟩
      by_cases hv : v = i
      · subst hv; rw [h] at q2; cases q2
      · exact hc ⟨by omega, q2⟩
    rw [if_neg hc, if_neg hn]
theorem CS_triedWith_ok {F n : Nat} {a v c : Int32} {at_ : Nat → Int32} (hn : n ≤ 12) (hF : 12 < F) : OK (m_CS_triedWith F (nI n) a v at_ c) (fun q => ∀ u, u < 32 → (bt q u = true ↔ u < n ∧ at_ u = c)) := by
  unfold m_CS_triedWith
  refine OK_for n (fun i z => ∃ q : Int32, z = (q, nI i) ∧ ∀ u, u < 32 → (bt q u = true ↔ u < i ∧ at_ u = c)) ?_ ?_ F 0 _ (by omega) ⟨0, rfl, fun u hu => ⟨(fun q => by rw [b_0] at q; cases q), (fun q => by omega)⟩⟩ (by omega)
  · rintro k1 z ⟨q, rfl, hq⟩
    dsimp only
    rw [if_pos (nI_le (Nat.le_refl _) (by omega))]
    exact OK_some hq
  · rintro k1 i z hi ⟨q, rfl, hq⟩ hk1
    dsimp only
    rw [if_neg (nI_ge hi (by omega)), gC_t (inb_nI (by omega) (by omega)), nI_clamp (by omega)]
    by_cases hc : at_ i = c
    · rw [if_pos hc, gB_eq, gB_eq, nI_1]
      refine hk1 _ ⟨_, rfl, fun u hu => ?_⟩
      rw [b_or, Bool.or_eq_true, hq u hu, b_one (by omega) hu, decide_eq_true_eq]
      constructor
      · rintro (⟨q1, q2⟩ | rfl)
        · exact ⟨by omega, q2⟩
        · exact ⟨by omega, hc⟩
      · rintro ⟨q1, q2⟩
        by_cases hui : u = i
        · exact Or.inr hui
        · exact Or.inl ⟨by omega, q2⟩
    · rw [if_neg hc, gB_eq, nI_1]
      refine hk1 _ ⟨q, rfl, fun u hu => ?_⟩
      rw [hq u hu]
      constructor
      · rintro ⟨q1, q2⟩; exact ⟨by omega, q2⟩
      · rintro ⟨q1, q2⟩
        by_cases hui : u = i
        · subst hui; exact absurd q2 hc
        · exact ⟨by omega, q2⟩
/-- the chain of node j, in the colours own and col -/
def chainIs (n : Nat) (near at_ : Nat → Int32) (j : Nat) (own col ch : Int32) : Prop := ∃ wi : Int32, (∀ u, u < 32 → (bt wi u = true ↔ u < n ∧ (at_ u = own ∨ at_ u = col))) ∧ IsCl n near ((1 : Int32) <<< (nI j &&& 31)) wi ch ∧ ∀ i, i < 32 → bt ch i = true → i < n
theorem chain_uniq {n : Nat} {near at_ : Nat → Int32} {j : Nat} {own col c1 c2 : Int32} (h1 : chainIs n near at_ j own col c1) (h2 : chainIs n near at_ j own col c2) : c1 = c2 := by
  obtain ⟨w1, a1, b1, -⟩ := h1
  obtain ⟨w2, a2, b2, -⟩ := h2
  have e : w1 = w2 := by
    apply b_ext
    intro u hu
    have q := (a1 u hu).trans (a2 u hu).symm
    cases e1 : bt w1 u with
    | true => exact (q.mp e1).symm
    | false =>
      cases e2 : bt w2 u with
      | true => rw [q.mpr e2] at e1; cases e1
      | false => rfl
  subst e
  exact IsCl_uniq b1 b2
theorem chain_in {n : Nat} {near at_ : Nat → Int32} {j : Nat} {own col ch : Int32} (hj : j < 32) (hown : at_ j = own) (h : chainIs n near at_ j own col ch) : ∀ v, v < 32 → bt ch v = true → at_ v = own ∨ at_ v = col := by
  obtain ⟨wi, a1, b1, -⟩ := h
  refine b1.2.2 (fun v => at_ v = own ∨ at_ v = col) ?_ ?_
  · intro v hv hb
    rw [b_one hj hv, decide_eq_true_eq] at hb
    subst hb; exact Or.inl hown
  · intro v u _ hu _ _ hw
    exact ((a1 u hu).mp hw).2
theorem CS_turn_ok {F n k j c : Nat} {a v own : Int32} {near tail head at_ : Nat → Int32} (h : GR n k near tail head) (hj : j < n) (hc : c < 12) (hown : at_ j = own) (h1 : ¬ own = -1) (h2 : ¬ own = nI c) (hF : 12 < F) : OK (m_CS_turn F (nI n) a v near at_ (nI j) (nI c)) (fun r => ∃ ch, chainIs n near at_ j own (nI c) ch ∧ r = (bitc ch, trn at_ own (nI c) ch n)) := by
  have hn := h.1
  unfold m_CS_turn
  rw [gM_s (Net_isNode_t hn hj), if_neg (by decide), gM_s (CS_isColour_t hc), if_neg (by decide), gC_t (inb_nI (by omega) (by omega)), nI_clamp (by omega), hown, if_neg h1, gC_t (inb_nI (by omega) (by omega)), if_neg h2, gC_t (inb_nI (by omega) (by omega)), gB_eq]
  refine OK_gM (CS_triedWith_ok hn hF) (fun q1 hq1 => ?_)
  refine OK_gM (CS_triedWith_ok hn hF) (fun q2 hq2 => ?_)
  refine OK_gM (Net_partOf_ok h (fun i hi hb => by rw [b_one (by omega) hi, decide_eq_true_eq] at hb; omega) hF) (fun ch hch => ?_)
  have hcis : chainIs n near at_ j own (nI c) ch := ⟨q1 ||| q2, fun u hu => by
    rw [b_or, Bool.or_eq_true, hq1 u hu, hq2 u hu]
    constructor
    · rintro (⟨x1, x2⟩ | ⟨x1, x2⟩)
      · exact ⟨x1, Or.inl x2⟩
      · exact ⟨x1, Or.inr x2⟩
    · rintro ⟨x1, x2 | x2⟩
      · exact Or.inl ⟨x1, x2⟩
      · exact Or.inr ⟨x1, x2⟩, hch.1, hch.2⟩
  refine OK_for n (fun i z => z = (nI i, trn at_ own (nI c) ch i)) ?_ ?_ F 0 _ (by omega) (by rw [trn_0]; rfl) (by omega)
  · rintro k1 z rfl
    dsimp only
    rw [if_pos (nI_le (Nat.le_refl _) (by omega))]
    exact OK_some ⟨ch, hcis, rfl⟩
  · rintro k1 i z hi rfl hk1
    dsimp only
    rw [if_neg (nI_ge hi (by omega))]
    cases hb : bt ch i with
    | false =>
      rw [if_pos ((b_test _ (by omega)).mpr hb), gB_eq, nI_1]
      exact hk1 _ (by rw [trn_no hb])
    | true =>
      rw [if_neg (fun q => by rw [(b_test _ (by omega)).mp q] at hb; cases hb), gC_t (inb_nI (by omega) (by omega)), gB_eq, nI_clamp (by omega), trn_at (Nat.le_refl i)]
      have e := trn_up (at_ := at_) (own := own) (col := nI c) hb
      by_cases ho : at_ i = own
      · rw [if_pos ho] at e ⊢
        dsimp only
        rw [gC_t (inb_nI (by omega) (by omega)), gB_eq, nI_1, e]
        exact hk1 _ rfl
      · rw [if_neg ho] at e ⊢
        dsimp only
        rw [gC_t (inb_nI (by omega) (by omega)), gB_eq, nI_1, e]
        exact hk1 _ rfl
def turnOK (n : Nat) (at_ : Nat → Int32) (p1 p2 : Int32) : Prop := ∃ j c, j < n ∧ c < 12 ∧ p1 = nI j ∧ p2 = nI c ∧ ¬ at_ j = -1 ∧ ¬ at_ j = nI c
theorem CS_turn_no {F n : Nat} {a v p1 p2 : Int32} {near at_ : Nat → Int32} (hn : n ≤ 12) (h : ¬ turnOK n at_ p1 p2) : m_CS_turn F (nI n) a v near at_ p1 p2 = some (-1, at_) := by
  unfold m_CS_turn
  rcases ix_cases p1 (n := n) (by omega) with ⟨j, hj, rfl, -, -⟩ | ⟨-, h1⟩
  · rw [gM_s (Net_isNode_t hn hj), if_neg (by decide)]
    rcases ix_cases p2 (n := 12) (by omega) with ⟨c, hc, rfl, -, -⟩ | ⟨-, h2⟩
    · rw [gM_s (CS_isColour_t hc), if_neg (by decide), gC_t (inb_nI (by omega) (by omega)), nI_clamp (by omega)]
      by_cases h3 : at_ j = -1
      · rw [if_pos h3]
      · rw [if_neg h3, gC_t (inb_nI (by omega) (by omega))]
        by_cases h4 : at_ j = nI c
        · rw [if_pos h4]
        · exact absurd ⟨j, c, hj, hc, rfl, rfl, h3, h4⟩ h
    · rw [gM_s (CS_isColour_f h2)]; rfl
  · rw [gM_s (Net_isNode_f h1)]; rfl
theorem Mo_turn_no {F n : Nat} {t a y z c d p1 p2 : Int32} {near at_ : Nat → Int32} (hn : n ≤ 12) (h : ¬ turnOK n at_ p1 p2) : m_Mo_turn F t (nI n) a y z c d near at_ p1 p2 = some (-1, 0, at_) := by
  unfold m_Mo_turn
  rcases ix_cases p1 (n := n) (by omega) with ⟨j, hj, rfl, -, -⟩ | ⟨-, h1⟩
  · rw [gM_s (Mo_isNode_t hn hj), if_neg (by decide)]
    rcases ix_cases p2 (n := 12) (by omega) with ⟨c, hc, rfl, -, -⟩ | ⟨-, h2⟩
    · rw [if_neg (nI_pos (by omega)), if_neg (show ¬ (11 : Int32) < nI c from nI_nlt (b := c) (a := 11) (by omega) (by omega)), gC_t (inb_nI (by omega) (by omega)), nI_clamp (by omega)]
      by_cases h3 : at_ j = -1
      · rw [if_pos h3]
      · rw [if_neg h3, gC_t (inb_nI (by omega) (by omega))]
        by_cases h4 : at_ j = nI c
        · rw [if_pos h4]
        · exact absurd ⟨j, c, hj, hc, rfl, rfl, h3, h4⟩ h
    · by_cases h3 : p2 < 0
      · rw [if_pos h3]
      · rw [if_neg h3, if_pos (by
          have h4 := h2.resolve_left h3
          have e1 := Int32.le_iff_toInt_le.mp h4
          rw [nI_toInt (by omega)] at e1
          apply Int32.lt_iff_toInt_lt.mpr
          have e2 : (11 : Int32).toInt = 11 := by decide
          omega)]
  · rw [gM_s (Mo_isNode_f h1)]; rfl
theorem and_ne0 {x y : Int32} : ¬ (x &&& y) = 0 ↔ ∃ i, i < 32 ∧ bt x i = true ∧ bt y i = true := by
  constructor
  · intro h
    obtain ⟨i, hi, hb⟩ := ne0_bit h
    rw [b_and, Bool.and_eq_true] at hb
    exact ⟨i, hi, hb.1, hb.2⟩
  · rintro ⟨i, hi, h1, h2⟩ q
    have e := (b_eq0 _).mp q i hi
    rw [b_and, h1, h2] at e
    cases e
theorem i_or0 (x : Int32) : x ||| 0 = x := by
  apply b_ext
  intro i hi
  rw [b_or, b_0, Bool.or_false]
theorem Mo_turn_ok {F n k j c : Nat} {t a y z e1 e2 own : Int32} {near tail head near2 at_ : Nat → Int32} (h : GR n k near tail head) (hnr : ∀ v, v < n → near2 v = near v) (hj : j < n) (hc : c < 12) (hown : at_ j = own) (h1 : ¬ own = -1) (h2 : ¬ own = nI c) (hF : 40 < F) : OK (m_Mo_turn F t (nI n) a y z e1 e2 near2 at_ (nI j) (nI c)) (fun r => ∃ ch, chainIs n near at_ j own (nI c) ch ∧ r = (nI (popN ch.toBitVec.toNat 12), 0, trn at_ own (nI c) ch n)) := by
  have hn := h.1
  unfold m_Mo_turn
  rw [gM_s (Mo_isNode_t hn hj), if_neg (by decide), if_neg (nI_pos (by omega)), if_neg (show ¬ (11 : Int32) < nI c from nI_nlt (b := c) (a := 11) (by omega) (by omega)), gC_t (inb_nI (by omega) (by omega)), nI_clamp (by omega), hown, if_neg h1, gC_t (inb_nI (by omega) (by omega)), if_neg h2, gC_t (inb_nI (by omega) (by omega)), gB_eq, gB_eq]
  refine OK_gL (fun z => ∃ (re g : Int32), z = (re, g) ∧ (∀ u, u < 32 → bt re u = true → u < n) ∧ bt re j = true ∧ (∀ S : Nat → Prop, S j → (∀ v u, v < n → u < n → S v → bt (near v) u = true → (at_ u = own ∨ at_ u = nI c) → S u) → ∀ v, v < 32 → bt re v = true → S v) ∧ (g = 1 ∨ (g = 0 ∧ ∀ v u, v < n → u < n → bt re v = true → bt (near v) u = true → (at_ u = own ∨ at_ u = nI c) → bt re u = true))) (fun z => 2 * (n - bc z.1 n) + (if z.2 = 0 then 0 else 1)) ?_ F _ ⟨_, 1, rfl, ?_, ?_, ?_, Or.inl rfl⟩ ?_
  · rintro k1 z ⟨re, g, rfl, q1, q2, q3, q4⟩ hk1
    dsimp only
    rcases q4 with rfl | ⟨rfl, q4⟩
    · rw [if_neg (by decide)]
      refine OK_for n (fun i z => ∃ r2 : Int32, z = (r2, nI i) ∧ (∀ u, u < 32 → bt r2 u = true → u < n) ∧ (∀ u, u < 32 → bt re u = true → bt r2 u = true) ∧ (∀ S : Nat → Prop, S j → (∀ v u, v < n → u < n → S v → bt (near v) u = true → (at_ u = own ∨ at_ u = nI c) → S u) → ∀ v, v < 32 → bt r2 v = true → S v) ∧ (∀ v u, v < n → u < i → bt re v = true → bt (near v) u = true → (at_ u = own ∨ at_ u = nI c) → bt r2 u = true)) ?_ ?_ F 0 _ (by omega) ⟨re, rfl, q1, fun _ _ q => q, q3, fun v u _ hu => by omega⟩ (by omega)
      · rintro k2 z ⟨r2, rfl, p1, p2, p3, p4⟩
        dsimp only
        rw [if_pos (nI_le (Nat.le_refl _) (by omega))]
        by_cases hs : r2 = re
        · subst hs
          rw [if_pos rfl]
          refine hk1 _ ⟨r2, 0, rfl, p1, q2, p3, Or.inr ⟨rfl, p4⟩⟩ ?_
          dsimp only
          rw [if_pos rfl, if_neg (by decide)]
          omega
        · rw [if_neg hs]
          refine hk1 _ ⟨r2, 1, rfl, p1, p2 j (by omega) q2, p3, Or.inl rfl⟩ ?_
          have hex : ∃ w, w < 32 ∧ bt re w = false ∧ bt r2 w = true := by
            by_cases hx : ∃ w, w < 32 ∧ bt re w = false ∧ bt r2 w = true
            · exact hx
            · refine absurd (b_ext fun i hi => ?_) hs
              cases e3 : bt re i with
              | true => exact p2 i hi e3
              | false =>
                cases e4 : bt r2 i with
                | false => rfl
                | true => exact absurd ⟨i, hi, e3, e4⟩ hx
          obtain ⟨w, hw, w1, w2⟩ := hex
          have hb := bc_more (x := re) (y := r2) n (fun v hv q => p2 v (by omega) q) (p1 w hw w2) w1 w2
          have hb2 := bc_le r2 n
          dsimp only
          rw [if_neg (by decide)]
          omega
      · rintro k2 i z hi ⟨r2, rfl, p1, p2, p3, p4⟩ hk2
        dsimp only
        rw [if_neg (nI_ge hi (by omega)), gC_t (inb_nI (by omega) (by omega)), nI_clamp (by omega), hnr i hi, gB_eq, gB_eq]
        have keep : ¬ (at_ i = own ∨ at_ i = nI c) ∨ (near i &&& r2) = 0 → OK (k2 (r2, nI (i + 1))) (fun r => ∃ ch, chainIs n near at_ j own (nI c) ch ∧ r = (nI (popN ch.toBitVec.toNat 12), 0, trn at_ own (nI c) ch n)) := by
          intro hq
          refine hk2 _ ⟨r2, rfl, p1, p2, p3, ?_⟩
          intro v u hv hu hre hnu hat
          by_cases hui : u = i
          · subst hui
            rcases hq with hq | hq
            · exact absurd hat hq
            · have e5 := (b_eq0 _).mp hq v (by omega)
              rw [b_and, GR_sym h (by omega) (by omega) hnu, p2 v (by omega) hre] at e5
              cases e5
          · exact p4 v u hv (by omega) hre hnu hat
        have yes : (at_ i = own ∨ at_ i = nI c) → OK (if (1 : Int32) = 0 then gB (r2 ||| 0) (fun x4_38 => gB (nI i + 1) (fun x7_39 => k2 (x4_38, x7_39))) else gC (inb (nI i) 12) (if (near i &&& r2) = 0 then gB (r2 ||| 0) (fun x4_42 => gB (nI i + 1) (fun x7_43 => k2 (x4_42, x7_43))) else gB (r2 ||| ((1 : Int32) <<< (nI i &&& 31))) (fun x4_44 => gB (nI i + 1) (fun x7_45 => k2 (x4_44, x7_45))))) (fun r => ∃ ch, chainIs n near at_ j own (nI c) ch ∧ r = (nI (popN ch.toBitVec.toNat 12), 0, trn at_ own (nI c) ch n)) := by
          intro hat
          rw [if_neg (by decide), gC_t (inb_nI (by omega) (by omega))]
          by_cases hz : (near i &&& r2) = 0
          · rw [if_pos hz, gB_eq, gB_eq, nI_1, i_or0]
            exact keep (Or.inr hz)
          · rw [if_neg hz, gB_eq, gB_eq, nI_1]
            obtain ⟨w, hw, w1, w2⟩ := and_ne0.mp hz
            have hwn := p1 w hw w2
            have hor : ∀ u, u < 32 → (bt (r2 ||| ((1 : Int32) <<< (nI i &&& 31))) u = true ↔ bt r2 u = true ∨ u = i) := fun u hu => by
              rw [b_or, b_one (by omega) hu, Bool.or_eq_true, decide_eq_true_eq]
            refine hk2 _ ⟨_, rfl, ?_, ?_, ?_, ?_⟩
            · intro u hu hb
              rcases (hor u hu).mp hb with hb | rfl
              · exact p1 u hu hb
              · exact hi
            · intro u hu hb
              exact (hor u hu).mpr (Or.inl (p2 u hu hb))
            · intro S s1 s2 u hu hb
              rcases (hor u hu).mp hb with hb | rfl
              · exact p3 S s1 s2 u hu hb
              · exact s2 w u hwn hi (p3 S s1 s2 w hw w2) (GR_sym h (by omega) hw w1) hat
            · intro v u hv hu hre hnu hat2
              by_cases hui : u = i
              · exact (hor u (by omega)).mpr (Or.inr hui)
              · exact (hor u (by omega)).mpr (Or.inl (p4 v u hv (by omega) hre hnu hat2))
        by_cases ha1 : at_ i = nI c
        · rw [if_pos ha1]
          exact yes (Or.inr ha1)
        · rw [if_neg ha1, gC_t (inb_nI (by omega) (by omega))]
          by_cases ha2 : at_ i = own
          · rw [if_pos ha2]
            exact yes (Or.inl ha2)
          · rw [if_neg ha2]
            dsimp only
            rw [if_pos rfl, gB_eq, gB_eq, nI_1, i_or0]
            exact keep (Or.inl (fun q => q.elim ha2 ha1))
    · rw [if_pos rfl]
      have hcis : chainIs n near at_ j own (nI c) re := by
        obtain ⟨wi, hwi⟩ : ∃ wi : Int32, ∀ u, u < 32 → (bt wi u = true ↔ u < n ∧ (at_ u = own ∨ at_ u = nI c)) := by
          obtain ⟨x1, -, hx1⟩ := CS_triedWith_ok (F := 100) (a := 0) (v := 0) (c := own) (at_ := at_) hn (by omega)
          obtain ⟨x2, -, hx2⟩ := CS_triedWith_ok (F := 100) (a := 0) (v := 0) (c := nI c) (at_ := at_) hn (by omega)
          refine ⟨x1 ||| x2, fun u hu => ?_⟩
          rw [b_or, Bool.or_eq_true, hx1 u hu, hx2 u hu]
          constructor
          · rintro (⟨y1, y2⟩ | ⟨y1, y2⟩)
            · exact ⟨y1, Or.inl y2⟩
            · exact ⟨y1, Or.inr y2⟩
          · rintro ⟨y1, y2 | y2⟩
            · exact Or.inl ⟨y1, y2⟩
            · exact Or.inr ⟨y1, y2⟩
        refine ⟨wi, hwi, ⟨?_, ?_, ?_⟩, q1⟩
        · intro v hv hb
          rw [b_one (by omega) hv, decide_eq_true_eq] at hb
          subst hb; exact q2
        · intro v u hv hu hre hnu hw
          obtain ⟨w1, w2⟩ := (hwi u hu).mp hw
          exact q4 v u hv w1 hre hnu w2
        · intro S s1 s2
          refine q3 S (s1 j (by omega) (by rw [b_one (by omega) (by omega)]; simp)) (fun v u hv hu hs hnu hat => s2 v u hv (by omega) hs hnu ((hwi u (by omega)).mpr ⟨hu, hat⟩))
      have hin := chain_in (by omega) hown hcis
      refine OK_for n (fun i z => z = (nI i, trn at_ own (nI c) re i)) ?_ ?_ F 0 _ (by omega) (by rw [trn_0]; rfl) (by omega)
      · rintro k2 z rfl
        dsimp only
        rw [if_pos (nI_le (Nat.le_refl _) (by omega)), gM_s (count_M (M12_of (fun i i1 i2 => by
          cases hb : bt re i with
          | false => rfl
          | true => have := q1 i i2 hb; omega)) (by omega))]
        exact OK_some ⟨re, hcis, rfl⟩
      · rintro k2 i z hi rfl hk2
        dsimp only
        rw [if_neg (nI_ge hi (by omega))]
        cases hb : bt re i with
        | false =>
          rw [if_neg (fun q => by rw [(bit_one _ (by omega)).mp q] at hb; cases hb), gB_eq, nI_1]
          exact hk2 _ (by rw [trn_no hb])
        | true =>
          rw [if_pos ((bit_one _ (by omega)).mpr hb), gC_t (inb_nI (by omega) (by omega)), gB_eq, nI_clamp (by omega)]
          have et : trn at_ own (nI c) re i i = at_ i := trn_at (Nat.le_refl i)
          have e := trn_up (at_ := at_) (own := own) (col := nI c) hb
          by_cases ho : at_ i = nI c
          · have hno : ¬ at_ i = own := fun q => h2 (q.symm.trans ho)
            rw [if_neg hno] at e
            rw [if_pos (et.trans ho)]
            dsimp only
            rw [gC_t (inb_nI (by omega) (by omega)), gB_eq, nI_1, e]
            exact hk2 _ rfl
          · have hyo : at_ i = own := (hin i (by omega) hb).resolve_right ho
            rw [if_pos hyo] at e
            rw [if_neg (fun q => ho (et.symm.trans q))]
            dsimp only
            rw [gC_t (inb_nI (by omega) (by omega)), gB_eq, nI_1, e]
            exact hk2 _ rfl
  · intro u hu hb
    rw [b_one (by omega) hu, decide_eq_true_eq] at hb
    omega
  · rw [b_one (by omega) (by omega)]; simp
  · intro S s1 _ v hv hb
    rw [b_one (by omega) hv, decide_eq_true_eq] at hb
    subst hb; exact s1
  · dsimp only
    rw [if_neg (by decide)]
    omega
