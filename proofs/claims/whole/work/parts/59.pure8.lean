/-! PURE, 8: the parts of the net -/
def lowB (k : Nat) : Nat → Bool
  | 0 => k == 0
  | w + 1 => lowB k w || (decide ((nI k &&& (-(nI k))) = ((1 : Int32) <<< (nI w &&& 31))) && (k.testBit w && decide (k % 2 ^ w = 0)))
set_option maxRecDepth 20000 in
theorem lowB_all : ∀ a, a < 64 → ∀ b, b < 64 → lowB (64 * a + b) 12 = true := by decide +kernel
theorem lowB_of {k : Nat} : ∀ w, lowB k w = true → k = 0 ∨ ∃ j, j < w ∧ (nI k &&& (-(nI k))) = ((1 : Int32) <<< (nI j &&& 31)) ∧ k.testBit j = true ∧ k % 2 ^ j = 0
  | 0, h => Or.inl (by simpa [lowB] using h)
  | w + 1, h => by
    unfold lowB at h
    simp only [Bool.or_eq_true, Bool.and_eq_true, decide_eq_true_eq] at h
    rcases h with h | ⟨h1, h2, h3⟩
    · rcases lowB_of w h with h | ⟨j, hj, r⟩
      · exact Or.inl h
      · exact Or.inr ⟨j, by omega, r⟩
    · exact Or.inr ⟨w, by omega, h1, h2, h3⟩
theorem low_bit {x : Int32} (hM : M12 x) (h0 : ¬ x = 0) : ∃ j, j < 12 ∧ (x &&& (-x)) = ((1 : Int32) <<< (nI j &&& 31)) ∧ bt x j = true ∧ ∀ u, u < j → bt x u = false := by
  have hk : x.toBitVec.toNat < 4096 := hM
  have e := nI_self x
  generalize x.toBitVec.toNat = k at hk e
  subst e
  have hb := lowB_all (k / 64) (by omega) (k % 64) (by omega)
  rw [show 64 * (k / 64) + k % 64 = k by omega] at hb
  rcases lowB_of 12 hb with rfl | ⟨j, hj, h1, h2, h3⟩
  · exact absurd rfl h0
  · refine ⟨j, hj, h1, by rw [bt_nI k (by omega)]; exact h2, fun u hu => ?_⟩
    rw [bt_nI k (by omega)]
    have e2 : (k % 2 ^ j).testBit u = (decide (u < j) && k.testBit u) := Nat.testBit_mod_two_pow k j u
    rw [h3] at e2
    simp [hu] at e2
    exact e2
def allM (n : Nat) : Int32 := ((1 : Int32) <<< (nI n &&& 31)) - 1
theorem allM_bt {n i : Nat} (hn : n < 32) (hi : i < 32) : bt (allM n) i = decide (i < n) := b_full n hn i hi
def compOf (n : Nat) (near : Nat → Int32) (v : Nat) : Int32 := (m_Net_partOf 100 (nI n) 0 0 near ((1 : Int32) <<< (nI v &&& 31)) (allM n)).getD 0
theorem one_in {n v : Nat} (hv : v < n) (hn : n ≤ 12) : ∀ i, i < 32 → bt ((1 : Int32) <<< (nI v &&& 31)) i = true → i < n := fun i hi hb => by
  rw [b_one (by omega) hi, decide_eq_true_eq] at hb
  omega
theorem compOf_ok {n k v : Nat} {near tail head : Nat → Int32} (h : GR n k near tail head) (hv : v < n) : IsCl n near ((1 : Int32) <<< (nI v &&& 31)) (allM n) (compOf n near v) ∧ ∀ i, i < 32 → bt (compOf n near v) i = true → i < n := by
  obtain ⟨r, e, hr⟩ := Net_partOf_ok (F := 100) (a := 0) (v := 0) (wi := allM n) h (one_in hv h.1) (by omega)
  unfold compOf
  rw [e]
  exact hr
def seenS (n : Nat) (near : Nat → Int32) : Nat → Int32 × Nat
  | 0 => (0, 0)
  | i + 1 => if bt (seenS n near i).1 i = true then seenS n near i else ((seenS n near i).1 ||| compOf n near i, (seenS n near i).2 + 1)
theorem seenS_t {n i : Nat} {near : Nat → Int32} (h : bt (seenS n near i).1 i = true) : seenS n near (i + 1) = seenS n near i := by
  rw [seenS, if_pos h]
theorem seenS_f {n i : Nat} {near : Nat → Int32} (h : bt (seenS n near i).1 i = false) : seenS n near (i + 1) = ((seenS n near i).1 ||| compOf n near i, (seenS n near i).2 + 1) := by
  rw [seenS, if_neg (by rw [h]; decide)]
theorem Net_countParts_ok {F n k : Nat} {a v : Int32} {near tail head : Nat → Int32} (h : GR n k near tail head) (hF : 12 < F) : m_Net_countParts F (nI n) a v near = some (nI (seenS n near n).2) := by
  have hn := h.1
  refine OK_eq ?_
  unfold m_Net_countParts
  refine OK_for n (fun i z => z = (nI (seenS n near i).2, (seenS n near i).1, nI i)) ?_ ?_ F 0 _ (by omega) rfl (by omega)
  · rintro k1 z rfl
    dsimp only
    rw [if_pos (nI_le (Nat.le_refl _) (by omega))]
    exact OK_some rfl
  · rintro k1 i z hi rfl hk1
    dsimp only
    rw [if_neg (nI_ge hi (by omega))]
    cases hb : bt (seenS n near i).1 i with
    | false =>
      rw [if_pos ((b_test _ (by omega)).mpr hb)]
      unfold m_Net_everyNode
      rw [gM_s rfl]
      refine OK_gM (Net_partOf_ok h (one_in hi hn) hF) (fun r hr => ?_)
      have e : r = compOf n near i := IsCl_uniq hr.1 (compOf_ok h hi).1
      rw [gB_eq, gB_eq, gB_eq, nI_1, nI_1, e]
      exact hk1 _ (by rw [seenS_f hb])
    | true =>
      rw [if_neg (fun q => by rw [(b_test _ (by omega)).mp q] at hb; cases hb), gB_eq, nI_1]
      exact hk1 _ (by rw [seenS_t hb])
theorem seenS_all {n k : Nat} {near tail head : Nat → Int32} (h : GR n k near tail head) : ∀ i, i ≤ n → (∀ u, u < i → bt (seenS n near i).1 u = true) ∧ ∀ u, u < 32 → bt (seenS n near i).1 u = true → u < n
  | 0, _ => ⟨fun u hu => by omega, fun u hu hb => by
      have e : bt (0 : Int32) u = true := hb
      rw [b_0] at e
      cases e⟩
  | i + 1, hi => by
    obtain ⟨a, b⟩ := seenS_all h i (by omega)
    have hn := h.1
    cases hb : bt (seenS n near i).1 i with
    | true =>
      rw [seenS_t hb]
      exact ⟨lt_s a hb, b⟩
    | false =>
      rw [seenS_f hb]
      obtain ⟨c1, c2⟩ := compOf_ok h (v := i) (by omega)
      refine ⟨lt_s (fun u hu => by rw [b_or, a u hu, Bool.true_or]) (by rw [b_or, c1.1 i (by omega) (by rw [b_one (by omega) (by omega)]; simp), Bool.or_true]), fun u hu hq => ?_⟩
      rw [b_or, Bool.or_eq_true] at hq
      exact hq.elim (b u hu) (c2 u hu)
theorem seenS_stay {n : Nat} {near : Nat → Int32} {i : Nat} : ∀ j, i ≤ j → (∀ u, i ≤ u → u < j → bt (seenS n near i).1 u = true) → seenS n near j = seenS n near i
  | 0, h, _ => by rw [show i = 0 by omega]
  | j + 1, h, hu => by
    by_cases hij : i = j + 1
    · rw [hij]
    · have ih := seenS_stay j (by omega) (fun u h1 h2 => hu u h1 (by omega))
      rw [seenS_t (by rw [ih]; exact hu j (by omega) (by omega)), ih]
theorem Mo_parts_ok {F n k : Nat} {t a y z e1 e2 : Int32} {near tail head near2 : Nat → Int32} (h : GR n k near tail head) (hnr : ∀ v, v < n → near2 v = near v) (hF : 40 < F) : m_Mo_parts F t (nI n) a y z e1 e2 near2 = some (nI (seenS n near n).2) := by
  have hn := h.1
  refine OK_eq ?_
  unfold m_Mo_parts
  rw [gB_eq]
  refine OK_gL (fun z => ∃ (le : Int32) (i : Nat), i ≤ n ∧ z = (le, nI (seenS n near i).2) ∧ ∀ u, u < 32 → bt le u = (decide (u < n) && !bt (seenS n near i).1 u)) (fun z => bc z.1 n) ?_ F _ ⟨_, 0, by omega, rfl, fun u hu => by rw [b_full n (by omega) u hu]; show _ = (decide (u < n) && !bt 0 u); rw [b_0]; simp⟩ (by have := bc_le (((1 : Int32) <<< (nI n &&& 31)) - 1) n; dsimp only; omega)
  rintro k1 z ⟨le, i, hi, rfl, hle⟩ hk1
  dsimp only
  obtain ⟨sa, sb⟩ := seenS_all h i hi
  by_cases hz : le = 0
  · rw [if_pos hz]
    subst hz
    refine OK_some ?_
    rw [seenS_stay n hi (fun u _ h2 => ?_)]
    have e := hle u (by omega)
    rw [b_0] at e
    cases hb : bt (seenS n near i).1 u with
    | true => rfl
    | false => rw [hb] at e; simp [h2] at e
  · rw [if_neg hz]
    have hM : M12 le := M12_of (fun u h1 h2 => by rw [hle u h2]; simp [show ¬ u < n by omega])
    obtain ⟨j, hj, ej, hbj, hlow⟩ := low_bit hM hz
    have hjn : j < n := by
      have e := hle j (by omega)
      rw [hbj] at e
      by_cases q : j < n
      · exact q
      · simp [q] at e
    have hsj : bt (seenS n near i).1 j = false := by
      have e := hle j (by omega)
      rw [hbj] at e
      simp [hjn] at e
      exact e
    have hij : i ≤ j := by
      rcases Nat.lt_or_ge j i with q | q
      · rw [sa j q] at hsj; cases hsj
      · exact q
    have est : seenS n near j = seenS n near i := seenS_stay j hij (fun u _ h2 => by
      have e := hle u (by omega)
      rw [hlow u h2] at e
      cases hb : bt (seenS n near i).1 u with
      | true => rfl
      | false => rw [hb] at e; simp [show u < n by omega] at e)
    rw [gB_eq, ej]
    refine OK_gL (fun z => ∃ (re g : Int32), z = (re, g) ∧ (∀ u, u < 32 → bt re u = true → u < n) ∧ bt re j = true ∧ (∀ S : Nat → Prop, S j → (∀ v u, v < n → u < n → S v → bt (near v) u = true → S u) → ∀ v, v < 32 → bt re v = true → S v) ∧ (g = 1 ∨ (g = 0 ∧ ∀ v u, v < n → u < n → bt re v = true → bt (near v) u = true → bt re u = true))) (fun z => 2 * (n - bc z.1 n) + (if z.2 = 0 then 0 else 1)) ?_ F _ ⟨_, 1, rfl, one_in hjn hn, by rw [b_one (by omega) (by omega)]; simp, ?_, Or.inl rfl⟩ (by dsimp only; rw [if_neg (by decide)]; omega)
    · rintro k2 z ⟨re, g, rfl, q1, q2, q3, q4⟩ hk2
      dsimp only
      rcases q4 with rfl | ⟨rfl, q4⟩
      · rw [if_neg (by decide)]
        refine OK_for n (fun i z => ∃ r2 : Int32, z = (r2, nI i) ∧ (∀ u, u < 32 → bt r2 u = true → u < n) ∧ (∀ u, u < 32 → bt re u = true → bt r2 u = true) ∧ (∀ S : Nat → Prop, S j → (∀ v u, v < n → u < n → S v → bt (near v) u = true → S u) → ∀ v, v < 32 → bt r2 v = true → S v) ∧ (∀ v u, v < n → u < i → bt re v = true → bt (near v) u = true → bt r2 u = true)) ?_ ?_ F 0 _ (by omega) ⟨re, rfl, q1, fun _ _ q => q, q3, fun v u _ hu => by omega⟩ (by omega)
        · rintro k3 z ⟨r2, rfl, p1, p2, p3, p4⟩
          dsimp only
          rw [if_pos (nI_le (Nat.le_refl _) (by omega))]
          by_cases hs : r2 = re
          · subst hs
            rw [if_pos rfl]
            refine hk2 _ ⟨r2, 0, rfl, p1, q2, p3, Or.inr ⟨rfl, p4⟩⟩ ?_
            dsimp only
            rw [if_pos rfl, if_neg (by decide)]
            omega
          · rw [if_neg hs]
            refine hk2 _ ⟨r2, 1, rfl, p1, p2 j (by omega) q2, p3, Or.inl rfl⟩ ?_
            have hex : ∃ w, w < 32 ∧ bt re w = false ∧ bt r2 w = true := by
              by_cases hx : ∃ w, w < 32 ∧ bt re w = false ∧ bt r2 w = true
              · exact hx
              · refine absurd (b_ext fun i hi => ?_) hs
                cases e3 : bt re i with
                | true => exact p2 i hi e3
                | false =>
                  cases e4 : bt r2 i with
                  | false => rfl
                  | true => exact absurd ⟨i, hi, e3, e4⟩ hx
            obtain ⟨w, hw, w1, w2⟩ := hex
            have hb := bc_more (x := re) (y := r2) n (fun v hv q => p2 v (by omega) q) (p1 w hw w2) w1 w2
            have hb2 := bc_le r2 n
            dsimp only
            rw [if_neg (by decide)]
            omega
        · rintro k3 i z hi ⟨r2, rfl, p1, p2, p3, p4⟩ hk3
          dsimp only
          rw [if_neg (nI_ge hi (by omega)), gC_t (inb_nI (by omega) (by omega)), nI_clamp (by omega), hnr i hi]
          by_cases hz : (near i &&& r2) = 0
          · rw [if_pos hz, gB_eq, gB_eq, nI_1, i_or0]
            refine hk3 _ ⟨r2, rfl, p1, p2, p3, ?_⟩
            intro v u hv hu hre hnu
            by_cases hui : u = i
            · subst hui
              have e5 := (b_eq0 _).mp hz v (by omega)
              rw [b_and, GR_sym h (by omega) (by omega) hnu, p2 v (by omega) hre] at e5
              cases e5
            · exact p4 v u hv (by omega) hre hnu
          · rw [if_neg hz, gB_eq, gB_eq, nI_1]
            obtain ⟨w, hw, w1, w2⟩ := and_ne0.mp hz
            have hwn := p1 w hw w2
            have hor : ∀ u, u < 32 → (bt (r2 ||| ((1 : Int32) <<< (nI i &&& 31))) u = true ↔ bt r2 u = true ∨ u = i) := fun u hu => by
              rw [b_or, b_one (by omega) hu, Bool.or_eq_true, decide_eq_true_eq]
            refine hk3 _ ⟨_, rfl, ?_, ?_, ?_, ?_⟩
            · intro u hu hb
              rcases (hor u hu).mp hb with hb | rfl
              · exact p1 u hu hb
              · exact hi
            · intro u hu hb
              exact (hor u hu).mpr (Or.inl (p2 u hu hb))
            · intro S s1 s2 u hu hb
              rcases (hor u hu).mp hb with hb | rfl
              · exact p3 S s1 s2 u hu hb
              · exact s2 w u hwn hi (p3 S s1 s2 w hw w2) (GR_sym h (by omega) hw w1)
            · intro v u hv hu hre hnu
              by_cases hui : u = i
              · exact (hor u (by omega)).mpr (Or.inr hui)
              · exact (hor u (by omega)).mpr (Or.inl (p4 v u hv (by omega) hre hnu))
      · rw [if_pos rfl, gB_eq, gB_eq, nI_1]
        have ec : re = compOf n near j := by
          refine IsCl_uniq (n := n) (near := near) (sd := (1 : Int32) <<< (nI j &&& 31)) (wi := allM n) ⟨?_, ?_, ?_⟩ (compOf_ok h hjn).1
          · intro v hv hb
            rw [b_one (by omega) hv, decide_eq_true_eq] at hb
            subst hb; exact q2
          · intro v u hv hu hre hnu hw
            rw [allM_bt (by omega) hu, decide_eq_true_eq] at hw
            exact q4 v u hv hw hre hnu
          · intro S s1 s2
            exact q3 S (s1 j (by omega) (by rw [b_one (by omega) (by omega)]; simp)) (fun v u hv hu hs hnu => s2 v u hv (by omega) hs hnu (by rw [allM_bt (by omega) (by omega)]; simp [hu]))
        refine hk1 _ ⟨le &&& (re ^^^ (-1)), j + 1, by omega, ?_, ?_⟩ ?_
        · rw [seenS_f (by rw [est]; exact hsj), est]
        · intro u hu
          rw [seenS_f (by rw [est]; exact hsj), est, b_and, b_not _ hu, hle u hu, ← ec, b_or]
          cases decide (u < n) <;> cases bt (seenS n near i).1 u <;> cases bt re u <;> rfl
        · dsimp only
          have hb := bc_more (x := le &&& (re ^^^ (-1))) (y := le) n (fun v hv q => by rw [b_and, Bool.and_eq_true] at q; exact q.1) hjn (by rw [b_and, b_not _ (by omega), q2]; simp) hbj
          omega
    · intro S s1 _ v hv hb
      rw [b_one (by omega) hv, decide_eq_true_eq] at hb
      subst hb; exact s1
