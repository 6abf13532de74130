/-! PURE, 20: clique and apart, f: both sides -/
theorem GS_best {n k : Nat} {near tail head fits : Nat → Int32} {p1 r : Int32} (h : GR n k near tail head) (hfit : ∀ u v, u < n → v < n → u ≠ v → (bt (fits u) v = true ↔ (bt (near u) v = true ↔ ¬ p1 = 0))) (hg : GS (extS fits 0 (((1 : Int32) <<< (nI n &&& 31)) - 1)) 0 r) : bestS n near p1 (2 ^ n) r := by
  have hn := h.1
  have hfull : ∀ i, i < 32 → (bt (((1 : Int32) <<< (nI n &&& 31)) - 1) i = true ↔ i < n) := fun i hi => by
    rw [b_full n (by omega) i hi, decide_eq_true_iff]
  have z_or : ∀ s : Int32, (0 : Int32) ||| s = s := fun s => by
    apply b_ext
    intro i hi
    rw [b_or, b_0, Bool.false_or]
  have hpg : ∀ s, sub s (((1 : Int32) <<< (nI n &&& 31)) - 1) → (pf fits s ↔ goodS n near p1 s) := by
    intro s hs
    constructor
    · intro q w hw hb v hv hvw hbv
      rcases Nat.lt_or_gt_of_ne hvw with e | e
      · have := (hfit v w hv hw hvw).mp (q v w e (by omega) hbv hb)
        rw [← this]
        exact ⟨fun z => GR_sym h (by omega) (by omega) z, fun z => GR_sym h (by omega) (by omega) z⟩
      · exact (hfit w v hw hv (Ne.symm hvw)).mp (q w v e (by omega) hb hbv)
    · intro q u v huv hv hbu hbv
      have hun := (hfull u (by omega)).mp (hs u (by omega) hbu)
      have hvn := (hfull v (by omega)).mp (hs v (by omega) hbv)
      exact (hfit u v hun hvn (by omega)).mpr (q u hun hbu v hvn (by omega) hbv)
  have hin : ∀ x, x < 2 ^ n → goodS n near p1 (nI x) → extS fits 0 (((1 : Int32) <<< (nI n &&& 31)) - 1) (nI x) := by
    intro x hx hgx
    have hs : sub (nI x) (((1 : Int32) <<< (nI n &&& 31)) - 1) := fun i hi hb => by
      rw [hfull i hi]
      by_cases q : i < n
      · exact q
      · rw [nI_hi hn hx i (by omega) hi] at hb; cases hb
    exact ⟨nI x, hs, (hpg _ hs).mpr hgx, (z_or _).symm⟩
  have c0 : cnt 0 = 0 := by decide
  rcases hg with ⟨rfl, h1⟩ | ⟨⟨s, s1, s2, rfl⟩, h2, h3⟩
  · refine ⟨0, rfl, Nat.two_pow_pos n, (fun w hw q => by rw [b_0] at q; cases q), fun x hx hgx => Or.inl ?_⟩
    have e := h1 _ (hin x hx hgx)
    rw [c0] at e
    rw [b_eq0]
    intro i hi
    cases hb : bt (nI x) i with
    | false => rfl
    | true =>
      by_cases q : i < n
      · have := cnt_pos (show i < 12 by omega) hb
        omega
      · rw [nI_hi hn hx i (by omega) hi] at hb; cases hb
  · rw [z_or] at h2 h3 ⊢
    obtain ⟨m, hm, rfl⟩ := mask_of (x := s) (w := n) (fun i h4 h5 => by
      cases hb : bt s i with
      | false => rfl
      | true => have := (hfull i h5).mp (s1 i h5 hb); omega)
    exact ⟨m, rfl, hm, (hpg _ s1).mp s2, fun x hx hgx => h3 _ (hin x hx hgx)⟩
theorem SF_greatest_ok {F n k : Nat} {b p1 : Int32} {near tail head fits : Nat → Int32} (h : GR n k near tail head) (hfit : ∀ u v, u < n → v < n → u ≠ v → (bt (fits u) v = true ↔ (bt (near u) v = true ↔ ¬ p1 = 0))) (hF : 12 < F) : OK (m_SF_greatest F b fits (((1 : Int32) <<< (nI n &&& 31)) - 1)) (fun r => bestS n near p1 (2 ^ n) r.1 ∧ r.2 = r.1) := by
  have hn := h.1
  have c0 : cnt 0 = 0 := by decide
  unfold m_SF_greatest
  have e := SF_grow_ok (F := F) (fits := fits) hF 14 0 0 (((1 : Int32) <<< (nI n &&& 31)) - 1) (M12_of (fun i _ _ => b_0 i)) (M12_of (fun i _ _ => b_0 i)) (M12_of (fun i h1 h2 => by
    rw [b_full n (by omega) i h2]
    exact decide_eq_false (by omega))) (fun i _ _ => b_0 i) (by omega)
  rw [c0] at e
  refine OK_gM e ?_
  rintro r ⟨-, hr⟩
  exact OK_some ⟨GS_best h hfit hr, rfl⟩
theorem CS_apart_ok {F n k : Nat} {a v b : Int32} {near tail head fits : Nat → Int32} (h : GR n k near tail head) (hF : 12 < F) : OK (m_CS_apart F (nI n) a v near b fits) (fun r => bestS n near 0 (2 ^ n) r.1) := by
  have hn := h.1
  unfold m_CS_apart m_SF_greatestApart
  refine OK_gM (P' := fun r => bestS n near 0 (2 ^ n) r.1) ?_ (fun r hr => by obtain ⟨r1, r2, r3⟩ := r; exact OK_some hr)
  refine OK_for n (fun i z => ∃ f : Nat → Int32, z = (nI i, f) ∧ ∀ j, j < i → f j = near j ^^^ (-1)) ?_ ?_ F 0 _ (by omega) ⟨fits, rfl, fun j hj => by omega⟩ (by omega)
  · rintro k1 z ⟨f, rfl, hf⟩
    dsimp only
    unfold m_Net_everyNode
    rw [if_pos (nI_le (Nat.le_refl _) (by omega)), gM_s rfl]
    refine OK_gM (SF_greatest_ok (p1 := 0) h (fun u v hu hv huv => ?_) hF) ?_
    · rw [hf u hu, b_not _ (by omega)]
      cases bt (near u) v <;> simp
    · rintro ⟨r1, r2⟩ ⟨h1, h2⟩
      exact OK_some h1
  · rintro k1 i z hi ⟨f, rfl, hf⟩ hk1
    dsimp only
    rw [if_neg (nI_ge hi (by omega)), gC_t (inb_nI (by omega) (by omega)), gC_t (inb_nI (by omega) (by omega)), gB_eq, nI_1, nI_clamp (by omega)]
    refine hk1 _ ⟨_, rfl, fun j hj => ?_⟩
    by_cases e : j = i
    · subst e; rw [upd_same]
    · rw [upd_ne e]; exact hf j (by omega)
theorem Mo_apart_ok {F n k : Nat} {t a y z c d : Int32} {near tail head near2 : Nat → Int32} (h : GR n k near tail head) (hnr : ∀ v, v < n → near2 v = near v) (hF : 4096 < F) : OK (m_Mo_apart F t (nI n) a y z c d near2) (fun r => bestS n near 0 (2 ^ n) r.1 ∧ r.2 = 0) := by
  unfold m_Mo_apart
  exact OK_gM (Mo_greatest_ok h hnr hF) (fun r hr => OK_some ⟨hr, rfl⟩)
theorem Mo_clique_ok {F n k : Nat} {t a y z c d : Int32} {near tail head near2 : Nat → Int32} (h : GR n k near tail head) (hnr : ∀ v, v < n → near2 v = near v) (hF : 4096 < F) : OK (m_Mo_clique F t (nI n) a y z c d near2) (fun r => bestS n near 1 (2 ^ n) r.1 ∧ r.2 = 0) := by
  unfold m_Mo_clique
  exact OK_gM (Mo_greatest_ok h hnr hF) (fun r hr => OK_some ⟨hr, rfl⟩)
theorem cpyB_0 {n : Nat} (hn : n ≤ 12) : cpyB (0 : Int32) (0 : Int32) (nI n) 12 12 = true := by
  have e : (nI n).toNatClampNeg = n := nI_clamp (by omega)
  have e0 : (0 : Int32).toNatClampNeg = 0 := by decide
  unfold cpyB
  rw [e, e0]
  have h1 : ¬ nI n < 0 := nI_pos (by omega)
  have h2 : ¬ (0 : Int32) < 0 := by decide
  simp [h1, h2]
  omega
theorem CS_clique_ok {F n k : Nat} {a v b : Int32} {near tail head fits : Nat → Int32} (h : GR n k near tail head) (hF : 12 < F) : OK (m_CS_clique F (nI n) a v near b fits) (fun r => bestS n near 1 (2 ^ n) r.1) := by
  have hn := h.1
  unfold m_CS_clique m_SF_greatestClique m_Net_everyNode
  refine OK_gM (P' := fun r => bestS n near 1 (2 ^ n) r.1) ?_ (fun r hr => by obtain ⟨r1, r2, r3⟩ := r; exact OK_some hr)
  rw [gC_t (cpyB_0 hn), gM_s rfl]
  have e : (nI n).toNatClampNeg = n := nI_clamp (by omega)
  have e0 : (0 : Int32).toNatClampNeg = 0 := by decide
  rw [e, e0]
  refine OK_gM (SF_greatest_ok (p1 := 1) h (fun u v hu hv huv => ?_) hF) ?_
  · have ec : va_cpy near fits 0 0 n u = near u := by
      simp [va_cpy, hu]
    rw [ec]
    simp
  · rintro ⟨r1, r2⟩ ⟨h1, h2⟩
    exact OK_some h1
