/-! PURE, 4: list, put, taken, faults, told, clear -/
theorem OK_eq {ρ : Type} {o : Option ρ} {v : ρ} (h : OK o (fun r => r = v)) : o = some v := by
  obtain ⟨r, e, rfl⟩ := h
  exact e
theorem b_m4096 : ∀ i, i < 32 → bt (-4096) i = decide (12 ≤ i) := by decide +kernel
theorem bt_hi {k w i : Nat} (hk : k < 2 ^ w) (hi : w ≤ i) (h32 : i < 32) : bt (nI k) i = false := by
  rw [bt_nI k h32]
  apply Nat.testBit_lt_two_pow
  exact Nat.lt_of_lt_of_le hk (Nat.pow_le_pow_right (by omega) hi)
theorem mask12 (p : Int32) : (p &&& (-4096)) = 0 ↔ ∃ k, k < 4096 ∧ p = nI k := by
  rw [b_eq0]
  constructor
  · intro h
    refine mask_of (w := 12) (fun i h1 h2 => ?_)
    have := h i h2
    rw [b_and, b_m4096 i h2] at this
    simpa [h1] using this
  · rintro ⟨k, hk, rfl⟩ i hi
    rw [b_and, b_m4096 i hi]
    by_cases h : 12 ≤ i
    · rw [bt_hi (w := 12) hk h hi]; rfl
    · simp [h]
theorem rng_of {p : Int32} {M : Int32} {n : Nat} (hM : M = nI n) (hn : n < 2 ^ 31) (h1 : ¬ p < 0) (h2 : p ≤ M) : ∃ k, k < n + 1 ∧ p = nI k := by
  obtain ⟨j, hj, rfl⟩ := nI_of2 (n := n) (by rw [hM, nI_toInt hn]) h1 h2
  exact ⟨j, by omega, rfl⟩
theorem CS_list_ok {F n j k : Nat} {a v : Int32} {al : Nat → Int32} (hn : n ≤ 12) (hj : j < n) (hk : k < 4096) : m_CS_list F (nI n) a v al (nI j) (nI k) = some (1, upd al j (nI k)) := by
  unfold m_CS_list
  rw [gM_s (Net_isNode_t hn hj), if_neg (by decide), if_pos ((mask12 _).mpr ⟨k, hk, rfl⟩), gC_t (inb_nI (by omega) (by omega)), nI_clamp (by omega)]
theorem CS_list_no {F n : Nat} {a v p1 p2 : Int32} {al : Nat → Int32} (hn : n ≤ 12) (h : ¬ ((∃ j, j < n ∧ p1 = nI j) ∧ ∃ k, k < 4096 ∧ p2 = nI k)) : m_CS_list F (nI n) a v al p1 p2 = some (0, al) := by
  unfold m_CS_list
  rcases ix_cases p1 (n := n) (by omega) with ⟨j, hj, rfl, -, -⟩ | ⟨-, h1⟩
  · rw [gM_s (Net_isNode_t hn hj), if_neg (by decide), if_neg (fun q => h ⟨⟨j, hj, rfl⟩, (mask12 _).mp q⟩)]
  · rw [gM_s (Net_isNode_f h1)]; rfl
theorem Mo_list_ok {F n j k : Nat} {t a y z c d : Int32} {al : Nat → Int32} (hn : n ≤ 12) (hj : j < n) (hk : k < 4096) : m_Mo_list F t (nI n) a y z c d al (nI j) (nI k) = some (1, 0, 0, 0, upd al j (nI k)) := by
  unfold m_Mo_list m_Mo_changed
  rw [gM_s (Mo_isNode_t hn hj), if_neg (by decide), if_neg (nI_pos (by omega)), if_pos (show nI k ≤ (4095 : Int32) from nI_le (b := 4095) (by omega) (by omega)), gM_s rfl]
  try dsimp only
  rw [gC_t (inb_nI (by omega) (by omega)), nI_clamp (by omega)]
theorem Mo_list_no {F n : Nat} {t a y z c d p1 p2 : Int32} {al : Nat → Int32} (hn : n ≤ 12) (h : ¬ ((∃ j, j < n ∧ p1 = nI j) ∧ ∃ k, k < 4096 ∧ p2 = nI k)) : m_Mo_list F t (nI n) a y z c d al p1 p2 = some (0, 0, c, d, al) := by
  unfold m_Mo_list
  rcases ix_cases p1 (n := n) (by omega) with ⟨j, hj, rfl, -, -⟩ | ⟨-, h1⟩
  · rw [gM_s (Mo_isNode_t hn hj), if_neg (by decide)]
    by_cases h2 : p2 < 0
    · rw [if_pos h2]
    · rw [if_neg h2, if_neg (fun q => h ⟨⟨j, hj, rfl⟩, by
        obtain ⟨k, hk, e⟩ := rng_of (n := 4095) rfl (by omega) h2 q
        exact ⟨k, by omega, e⟩⟩)]
  · rw [gM_s (Mo_isNode_f h1)]; rfl
def colOK (p : Int32) : Prop := p = -1 ∨ ∃ c, c < 12 ∧ p = nI c
theorem CS_isColour_t {F c : Nat} (hc : c < 12) : m_CS_isColour F (nI c) = some 1 := by
  unfold m_CS_isColour
  rw [if_neg (nI_pos (by omega)), if_neg (show ¬ (12 : Int32) ≤ nI c from nI_ge (b := 12) hc (by omega))]
theorem CS_isColour_f {F : Nat} {p : Int32} (h : p < 0 ∨ nI 12 ≤ p) : m_CS_isColour F p = some 0 := by
  unfold m_CS_isColour
  by_cases h1 : p < 0
  · rw [if_pos h1]
  · rw [if_neg h1, if_pos (show (12 : Int32) ≤ p from h.resolve_left h1)]
theorem CS_put_ok {F n j : Nat} {a v p : Int32} {al : Nat → Int32} (hn : n ≤ 12) (hj : j < n) (hp : colOK p) : m_CS_put F (nI n) a v al (nI j) p = some (1, upd al j p) := by
  unfold m_CS_put
  rw [gM_s (Net_isNode_t hn hj), if_neg (by decide), gB_eq, gC_t (inb_nI (by omega) (by omega)), nI_clamp (by omega)]
  rcases hp with rfl | ⟨c, hc, rfl⟩
  · rw [if_pos rfl]
  · rw [if_neg (fun q => by have h9 : nI c < 0 := by rw [q]; decide
                            exact nI_pos (by omega) h9), gM_s (CS_isColour_t hc), if_neg (by decide)]
theorem CS_put_no {F n : Nat} {a v p1 p2 : Int32} {al : Nat → Int32} (hn : n ≤ 12) (h : ¬ ((∃ j, j < n ∧ p1 = nI j) ∧ colOK p2)) : m_CS_put F (nI n) a v al p1 p2 = some (0, al) := by
  unfold m_CS_put
  rcases ix_cases p1 (n := n) (by omega) with ⟨j, hj, rfl, -, -⟩ | ⟨-, h1⟩
  · rw [gM_s (Net_isNode_t hn hj), if_neg (by decide), gB_eq, if_neg (fun q => h ⟨⟨j, hj, rfl⟩, Or.inl q⟩)]
    rcases ix_cases p2 (n := 12) (by omega) with ⟨c, hc, rfl, -, -⟩ | ⟨-, h2⟩
    · exact absurd ⟨⟨j, hj, rfl⟩, Or.inr ⟨c, hc, rfl⟩⟩ h
    · rw [gM_s (CS_isColour_f h2)]; rfl
  · rw [gM_s (Net_isNode_f h1)]; rfl
theorem Mo_put_ok {F n j : Nat} {t a y z c d p : Int32} {al : Nat → Int32} (hn : n ≤ 12) (hj : j < n) (hp : colOK p) : m_Mo_put F t (nI n) a y z c d al (nI j) p = some (1, 0, upd al j p) := by
  unfold m_Mo_put
  have h1 : ¬ p < (-1 : Int32) ∧ p ≤ (11 : Int32) := by
    rcases hp with rfl | ⟨c, hc, rfl⟩
    · decide
    · refine ⟨fun q => ?_, nI_le (b := 11) (by omega) (by omega)⟩
      have h2 := Int32.lt_iff_toInt_lt.mp q
      rw [nI_toInt (by omega)] at h2
      have h3 : (-1 : Int32).toInt = -1 := by decide
      omega
  rw [gM_s (Mo_isNode_t hn hj), if_neg (by decide), if_neg h1.1, if_pos h1.2, gC_t (inb_nI (by omega) (by omega)), nI_clamp (by omega)]
theorem Mo_put_no {F n : Nat} {t a y z c d p1 p2 : Int32} {al : Nat → Int32} (hn : n ≤ 12) (h : ¬ ((∃ j, j < n ∧ p1 = nI j) ∧ colOK p2)) : m_Mo_put F t (nI n) a y z c d al p1 p2 = some (0, 0, al) := by
  unfold m_Mo_put
  rcases ix_cases p1 (n := n) (by omega) with ⟨j, hj, rfl, -, -⟩ | ⟨-, h1⟩
  · rw [gM_s (Mo_isNode_t hn hj), if_neg (by decide)]
    by_cases h2 : p2 < (-1 : Int32)
    · rw [if_pos h2]
    · rw [if_neg h2, if_neg (fun q => h ⟨⟨j, hj, rfl⟩, by
        by_cases h3 : p2 < 0
        · left
          apply Int32.toInt_inj.mp
          have e1 := Int32.lt_iff_toInt_lt.mp h3
          have e2 : ¬ p2.toInt < (-1 : Int32).toInt := fun q => h2 (Int32.lt_iff_toInt_lt.mpr q)
          have e3 : (-1 : Int32).toInt = -1 := by decide
          have e4 : (0 : Int32).toInt = 0 := by decide
          omega
        · obtain ⟨k, hk, e⟩ := rng_of (n := 11) rfl (by omega) h3 q
          exact Or.inr ⟨k, by omega, e⟩⟩)]
  · rw [gM_s (Mo_isNode_f h1)]; rfl
theorem CS_taken_t {F k j : Nat} {r : Int32} {sq : Nat → Int32} (hk : k ≤ 12) (hj : j < k) : m_CS_taken F (nI k) r sq (nI j) = some (sq j) := by
  unfold m_CS_taken
  rw [if_neg (nI_pos (by omega)), if_neg (nI_ge hj (by omega)), gC_t (inb_nI (by omega) (by omega)), nI_clamp (by omega)]
theorem CS_taken_f {F k : Nat} {r p : Int32} {sq : Nat → Int32} (h : p < 0 ∨ nI k ≤ p) : m_CS_taken F (nI k) r sq p = some (-1) := by
  unfold m_CS_taken
  by_cases h1 : p < 0
  · rw [if_pos h1]
  · rw [if_neg h1, if_pos (h.resolve_left h1)]
theorem Mo_taken_t {F k j : Nat} {t n a z c d : Int32} {sq : Nat → Int32} (hk : k ≤ 12) (hj : j < k) : m_Mo_taken F t n a (nI k) z c d sq (nI j) = some (sq j, 0) := by
  unfold m_Mo_taken
  rw [if_neg (nI_pos (by omega)), if_neg (nI_ge hj (by omega)), gC_t (inb_nI (by omega) (by omega)), nI_clamp (by omega)]
theorem Mo_taken_f {F k : Nat} {t n a z c d p : Int32} {sq : Nat → Int32} (h : p < 0 ∨ nI k ≤ p) : m_Mo_taken F t n a (nI k) z c d sq p = some (-1, 0) := by
  unfold m_Mo_taken
  by_cases h1 : p < 0
  · rw [if_pos h1]
  · rw [if_neg h1, if_pos (h.resolve_left h1)]
/-- faults -/
def fltN (tail head at_ : Nat → Int32) : Nat → Nat
  | 0 => 0
  | i + 1 => fltN tail head at_ i + (if at_ (tail i).toNatClampNeg = -1 then 0 else if at_ (tail i).toNatClampNeg = at_ (head i).toNatClampNeg then 1 else 0)
theorem fltN_s (tail head at_ : Nat → Int32) (i : Nat) : fltN tail head at_ (i + 1) = fltN tail head at_ i + (if at_ (tail i).toNatClampNeg = -1 then 0 else if at_ (tail i).toNatClampNeg = at_ (head i).toNatClampNeg then 1 else 0) := rfl
theorem fltN_congr {tail head fr to at1 at2 : Nat → Int32} : ∀ (k : Nat), (∀ i, i < k → fr i = tail i ∧ to i = head i ∧ at2 (tail i).toNatClampNeg = at1 (tail i).toNatClampNeg ∧ at2 (head i).toNatClampNeg = at1 (head i).toNatClampNeg) → fltN fr to at2 k = fltN tail head at1 k
  | 0, _ => rfl
  | k + 1, h => by
    obtain ⟨e1, e2, e3, e4⟩ := h k (by omega)
    rw [fltN_s, fltN_s, fltN_congr k (fun i hi => h i (by omega)), e1, e2, e3, e4]
theorem CS_faults_ok {F n k : Nat} {v : Int32} {near tail head at_ : Nat → Int32} (h : GR n k near tail head) (hF : 40 < F) : m_CS_faults F (nI n) (nI k) v tail head at_ = some (nI (fltN tail head at_ k)) := by
  obtain ⟨hn, hk, h1, h2, -, -⟩ := h
  have hend : ∀ i, i < k → inb (tail i) 12 = true ∧ inb (head i) 12 = true := by
    intro i hi
    obtain ⟨a, b, ha, hb, -, e1, e2, -, -⟩ := h2 i hi
    rw [e1, e2]
    exact ⟨inb_nI (by omega) (by omega), inb_nI (by omega) (by omega)⟩
  have H : OK (m_CS_faults F (nI n) (nI k) v tail head at_) (fun r => r = nI (fltN tail head at_ k)) := by
    unfold m_CS_faults
    refine OK_for k (fun i z => z = (nI (fltN tail head at_ i), nI i)) ?_ ?_ F 0 (0, 0) (by omega) rfl (by omega)
    · rintro k1 z rfl
      dsimp only
      rw [if_pos (nI_le (Nat.le_refl _) (by omega))]
      exact OK_some rfl
    · rintro k1 i z hi rfl hk1
      dsimp only
      rw [if_neg (nI_ge hi (by omega)), gC_t (inb_nI (by omega) (by omega)), nI_clamp (by omega), gC_t (hend i hi).1, gB_eq]
      by_cases h3 : at_ (tail i).toNatClampNeg = -1
      · rw [if_pos h3, gB_eq, nI_1]
        exact hk1 _ (by rw [fltN_s, if_pos h3]; rfl)
      · rw [if_neg h3, gC_t (inb_nI (by omega) (by omega)), gC_t (hend i hi).2]
        by_cases h4 : at_ (tail i).toNatClampNeg = at_ (head i).toNatClampNeg
        · rw [if_pos h4, gB_eq, gB_eq, nI_1, nI_1]
          exact hk1 _ (by rw [fltN_s, if_neg h3, if_pos h4])
        · rw [if_neg h4, gB_eq, nI_1]
          exact hk1 _ (by rw [fltN_s, if_neg h3, if_neg h4]; rfl)
  obtain ⟨r, e, h⟩ := H
  rw [e, h]
theorem Mo_faults_ok {F n k : Nat} {t y z c d : Int32} {fr to at_ : Nat → Int32} (hk : k ≤ 40) (hend : ∀ i, i < k → inb (fr i) 12 = true ∧ inb (to i) 12 = true) (hF : 40 < F) : m_Mo_faults F t (nI n) (nI k) y z c d fr to at_ = some (nI (fltN fr to at_ k), 0) := by
  have H : OK (m_Mo_faults F t (nI n) (nI k) y z c d fr to at_) (fun r => r = (nI (fltN fr to at_ k), 0)) := by
    unfold m_Mo_faults
    refine OK_for k (fun i z => z = (nI (fltN fr to at_ i), nI i)) ?_ ?_ F 0 (0, 0) (by omega) rfl (by omega)
    · rintro k1 z rfl
      dsimp only
      rw [if_pos (nI_le (Nat.le_refl _) (by omega))]
      exact OK_some rfl
    · rintro k1 i z hi rfl hk1
      dsimp only
      rw [if_neg (nI_ge hi (by omega)), gC_t (inb_nI (by omega) (by omega)), nI_clamp (by omega), gC_t (hend i hi).1]
      by_cases h3 : at_ (fr i).toNatClampNeg = -1
      · rw [if_pos h3, gB_eq, gB_eq, nI_1]
        exact hk1 _ (by rw [fltN_s, if_pos h3]; simp)
      · rw [if_neg h3, gC_t (inb_nI (by omega) (by omega)), gC_t (hend i hi).1, gC_t (inb_nI (by omega) (by omega)), gC_t (hend i hi).2]
        by_cases h4 : at_ (fr i).toNatClampNeg = at_ (to i).toNatClampNeg
        · rw [if_pos h4, gB_eq, gB_eq, nI_1, nI_1]
          exact hk1 _ (by rw [fltN_s, if_neg h3, if_pos h4])
        · rw [if_neg h4, gB_eq, gB_eq, nI_1]
          exact hk1 _ (by rw [fltN_s, if_neg h3, if_neg h4]; simp)
  obtain ⟨r, e, h⟩ := H
  rw [e, h]
/-- told(2): the most near ones -/
def mostN (near : Nat → Int32) : Nat → Nat
  | 0 => 0
  | i + 1 => max (mostN near i) (popN (near i).toBitVec.toNat 12)
theorem mostN_s (near : Nat → Int32) (i : Nat) : mostN near (i + 1) = max (mostN near i) (popN (near i).toBitVec.toNat 12) := rfl
theorem mostN_le (near : Nat → Int32) : ∀ i, mostN near i ≤ 12
  | 0 => by show 0 ≤ 12; omega
  | i + 1 => by
    rw [mostN_s]
    have h1 := mostN_le near i
    have h2 := popN_le (near i).toBitVec.toNat 12
    omega
theorem mostN_congr {near near2 : Nat → Int32} : ∀ n, (∀ v, v < n → near2 v = near v) → mostN near2 n = mostN near n
  | 0, _ => rfl
  | n + 1, h => by rw [mostN_s, mostN_s, mostN_congr n (fun v hv => h v (by omega)), h n (by omega)]
/-- x has only bits below 12 -/
def M12 (x : Int32) : Prop := x.toBitVec.toNat < 4096
theorem M12_of {x : Int32} (h : ∀ i, 12 ≤ i → i < 32 → bt x i = false) : M12 x := by
  obtain ⟨k, hk, rfl⟩ := mask_of (w := 12) h
  unfold M12
  rw [pk_tn (by omega)]
  exact hk
theorem M12_bt {x : Int32} (h : M12 x) {i : Nat} (h1 : 12 ≤ i) (h2 : i < 32) : bt x i = false := by
  rw [nI_self x]
  exact bt_hi (w := 12) h h1 h2
theorem bitc_M {x : Int32} (h : M12 x) : bitc x = nI (popN x.toBitVec.toNat 12) := by
  have e := bitc_12 h
  rw [← nI_self x] at e
  exact e
theorem count_M {x : Int32} {F : Nat} (h : M12 x) (hF : 12 < F) : m_Mo_count F x = some (nI (popN x.toBitVec.toNat 12)) := by
  have e := Mo_count_ok (F := F) h hF
  rw [← nI_self x] at e
  exact e
theorem GR_M12 {n k : Nat} {near tail head : Nat → Int32} (h : GR n k near tail head) {v : Nat} (hv : v < 12) : M12 (near v) := by
  apply M12_of
  intro i h1 h2
  cases hb : bt (near v) i with
  | false => rfl
  | true => have := (h.2.2.1 v i hv h2 hb).2.1; have := h.1; omega
theorem Net_mostNear_ok {F n k : Nat} {a v : Int32} {near tail head : Nat → Int32} (h : GR n k near tail head) (hF : 12 < F) : m_Net_mostNear F (nI n) a v near = some (nI (mostN near n)) := by
  have hn := h.1
  have H : OK (m_Net_mostNear F (nI n) a v near) (fun r => r = nI (mostN near n)) := by
    unfold m_Net_mostNear
    refine OK_for n (fun i z => z = (nI (mostN near i), nI i)) ?_ ?_ F 0 (0, 0) (by omega) rfl (by omega)
    · rintro k1 z rfl
      dsimp only
      rw [if_pos (nI_le (Nat.le_refl _) (by omega))]
      exact OK_some rfl
    · rintro k1 i z hi rfl hk1
      dsimp only
      rw [if_neg (nI_ge hi (by omega)), gC_t (inb_nI (by omega) (by omega)), nI_clamp (by omega), gB_eq, gB_eq, nI_1, bitc_M (GR_M12 h (by omega))]
      refine hk1 _ ?_
      have h1 := mostN_le near i
      have h2 := popN_le (near i).toBitVec.toNat 12
      rw [mostN_s]
      unfold maxI
      by_cases hlt : mostN near i < popN (near i).toBitVec.toNat 12
      · rw [if_pos (nI_lt hlt (by omega)), Nat.max_eq_right (by omega)]
      · rw [if_neg (nI_nlt (by omega) (by omega)), Nat.max_eq_left (by omega)]
  obtain ⟨r, e, h⟩ := H
  rw [e, h]
/-- told(4): the colours tried -/
def triN (at_ : Nat → Int32) : Nat → Int32
  | 0 => 0
  | i + 1 => if at_ i = -1 then triN at_ i else triN at_ i ||| ((1 : Int32) <<< (at_ i &&& 31))
theorem triN_s (at_ : Nat → Int32) (i : Nat) : triN at_ (i + 1) = if at_ i = -1 then triN at_ i else triN at_ i ||| ((1 : Int32) <<< (at_ i &&& 31)) := rfl
theorem triN_congr {at1 at2 : Nat → Int32} : ∀ n, (∀ v, v < n → at2 v = at1 v) → triN at2 n = triN at1 n
  | 0, _ => rfl
  | n + 1, h => by rw [triN_s, triN_s, triN_congr n (fun v hv => h v (by omega)), h n (by omega)]
theorem triN_M {at_ : Nat → Int32} : ∀ n, (∀ v, v < n → colOK (at_ v)) → M12 (triN at_ n)
  | 0, _ => by show M12 0; unfold M12; decide
  | n + 1, h => by
    have ih := triN_M n (fun v hv => h v (by omega))
    rw [triN_s]
    by_cases h1 : at_ n = -1
    · rw [if_pos h1]; exact ih
    · rw [if_neg h1]
      rcases h n (by omega) with h2 | ⟨c, hc, h2⟩
      · exact absurd h2 h1
      · apply M12_of
        intro i hi1 hi2
        rw [b_or, M12_bt ih hi1 hi2, h2, b_one (by omega) hi2]
        simp; omega
theorem CS_tri_ok {F n : Nat} {a v : Int32} {at_ : Nat → Int32} (hn : n ≤ 12) (hc : ∀ v, v < n → colOK (at_ v)) (hF : 12 < F) : m_CS_countTriedColours F (nI n) a v at_ = some (nI (popN (triN at_ n).toBitVec.toNat 12)) := by
  have H : OK (m_CS_countTriedColours F (nI n) a v at_) (fun r => r = nI (popN (triN at_ n).toBitVec.toNat 12)) := by
    unfold m_CS_countTriedColours
    refine OK_for n (fun i z => z = (triN at_ i, nI i)) ?_ ?_ F 0 (0, 0) (by omega) rfl (by omega)
    · rintro k1 z rfl
      dsimp only
      rw [if_pos (nI_le (Nat.le_refl _) (by omega)), bitc_M (triN_M n hc)]
      exact OK_some rfl
    · rintro k1 i z hi rfl hk1
      dsimp only
      rw [if_neg (nI_ge hi (by omega)), gC_t (inb_nI (by omega) (by omega)), nI_clamp (by omega)]
      by_cases h1 : at_ i = -1
      · rw [if_pos h1, gB_eq, nI_1]
        exact hk1 _ (by rw [triN_s, if_pos h1])
      · rw [if_neg h1, gC_t (inb_nI (by omega) (by omega)), gB_eq, gB_eq, nI_1]
        exact hk1 _ (by rw [triN_s, if_neg h1])
  obtain ⟨r, e, h⟩ := H
  rw [e, h]
theorem Mo_told_2 {F n : Nat} {t a y z c d : Int32} {near at_ : Nat → Int32} (hn : n ≤ 12) (hM : ∀ v, v < n → M12 (near v)) (hF : 12 < F) : m_Mo_told F t (nI n) a y z c d near at_ 2 = some (nI (mostN near n), 0) := by
  unfold m_Mo_told
  rw [if_neg (by decide), if_neg (by decide), if_pos rfl]
  refine OK_eq ?_
  refine OK_for n (fun i z => z = (nI (mostN near i), nI i)) ?_ ?_ F 0 (0, 0) (by omega) rfl (by omega)
  · rintro k1 z rfl
    dsimp only
    rw [if_pos (nI_le (Nat.le_refl _) (by omega))]
    exact OK_some rfl
  · rintro k1 i z hi rfl hk1
    dsimp only
    rw [if_neg (nI_ge hi (by omega)), gC_t (inb_nI (by omega) (by omega)), nI_clamp (by omega), gM_s (count_M (hM i hi) hF)]
    have h1 := mostN_le near i
    have h2 := popN_le (near i).toBitVec.toNat 12
    by_cases hle : popN (near i).toBitVec.toNat 12 ≤ mostN near i
    · rw [if_pos (nI_le hle (by omega)), gB_eq, nI_1]
      exact hk1 _ (by rw [mostN_s, Nat.max_eq_left hle])
    · rw [if_neg (nI_ge (by omega) (by omega)), gC_t (inb_nI (by omega) (by omega)), gM_s (count_M (hM i hi) hF), gB_eq, nI_1]
      exact hk1 _ (by rw [mostN_s, Nat.max_eq_right (by omega)])
theorem Mo_told_4 {F n : Nat} {t a y z c d : Int32} {near at_ : Nat → Int32} (hn : n ≤ 12) (hc : ∀ v, v < n → colOK (at_ v)) (hF : 12 < F) : m_Mo_told F t (nI n) a y z c d near at_ 4 = some (nI (popN (triN at_ n).toBitVec.toNat 12), 0) := by
  unfold m_Mo_told
  rw [if_neg (by decide), if_neg (by decide), if_neg (by decide), if_neg (by decide), if_pos rfl]
  refine OK_eq ?_
  refine OK_for n (fun i z => z = (triN at_ i, nI i)) ?_ ?_ F 0 (0, 0) (by omega) rfl (by omega)
  · rintro k1 z rfl
    dsimp only
    rw [if_pos (nI_le (Nat.le_refl _) (by omega)), gM_s (count_M (triN_M n hc) hF)]
    exact OK_some rfl
  · rintro k1 i z hi rfl hk1
    dsimp only
    rw [if_neg (nI_ge hi (by omega)), gC_t (inb_nI (by omega) (by omega)), nI_clamp (by omega)]
    by_cases h1 : at_ i = -1
    · rw [if_pos h1, gB_eq, gB_eq, nI_1]
      exact hk1 _ (by rw [triN_s, if_pos h1]; simp)
    · rw [if_neg h1, gC_t (inb_nI (by omega) (by omega)), gB_eq, gB_eq, nI_1]
      exact hk1 _ (by rw [triN_s, if_neg h1])
/-- clear -/
theorem CS_clear_ok {F : Nat} {n a v tc tr : Int32} {near ti al sh sd at_ : Nat → Int32} : m_CS_clear F n a v near tc tr ti al sh sd at_ = some (0, 0, v + 1, fillA 12 0 near, 0, 0, fillA 12 (-1) ti, fillA 12 4095 al, fillA 12 (-1) sh, fillA 40 (-1) sd, fillA 12 (-1) at_) := rfl
theorem fill_upd {n : Nat} {v : Int32} {w : Nat → Int32} : upd (fillA n v w) n v = fillA (n + 1) v w := fill_up (n := n)
theorem fill_0 {α : Type} {v : α} {w : Nat → α} : fillA 0 v w = w := by funext j; simp [fillA]
theorem Mo_clear_ok {F : Nat} {t n a y z c d : Int32} {co sd ti at_ : Nat → Int32} (hF : 40 < F) : m_Mo_clear F t n a y z c d co sd ti at_ = some (0, 0, 0, 0, 0, 0, 0, fillA 12 (-1) co, fillA 40 (-1) sd, fillA 12 (-1) ti, fillA 12 (-1) at_) := by
  unfold m_Mo_clear m_Mo_changed
  rw [gM_s rfl]
  dsimp only
  refine OK_eq ?_
  refine OK_for 12 (fun i z => z = (nI i, fillA i (-1) co, fillA i (-1) ti, fillA i (-1) at_)) ?_ ?_ F 0 _ (by omega) (by rw [fill_0, fill_0, fill_0]; rfl) (by omega)
  · rintro k1 z rfl
    dsimp only
    rw [if_pos (show (12 : Int32) ≤ nI 12 by decide)]
    refine OK_for 40 (fun i z => z = (nI i, fillA i (-1) sd)) ?_ ?_ F 0 _ (by omega) (by rw [fill_0]; rfl) (by omega)
    · rintro k1 z rfl
      dsimp only
      rw [if_pos (show (40 : Int32) ≤ nI 40 by decide)]
      exact OK_some rfl
    · rintro k1 i z hi rfl hk1
      dsimp only
      rw [if_neg (show ¬ (40 : Int32) ≤ nI i from nI_ge (b := 40) hi (by omega)), gC_t (inb_nI (by omega) (by omega)), gB_eq, nI_clamp (by omega), nI_1, fill_upd]
      exact hk1 _ rfl
  · rintro k1 i z hi rfl hk1
    dsimp only
    rw [if_neg (show ¬ (12 : Int32) ≤ nI i from nI_ge (b := 12) hi (by omega)), gC_t (inb_nI (by omega) (by omega)), gC_t (inb_nI (by omega) (by omega)), gC_t (inb_nI (by omega) (by omega)), gB_eq, nI_clamp (by omega), nI_1, fill_upd, fill_upd, fill_upd]
    exact hk1 _ rfl
