/-! PURE, 27: least and even of the reference -/
def VC (near : Nat → Int32) (n k : Nat) (ev : Prop) (f : Nat → Nat) : Prop := (∀ i, i < n → f i < k) ∧ (∀ i u, i < n → u < i → bt (near i) u = true → ¬ f u = f i) ∧ (ev → evF n k f)
theorem VC_swp {near : Nat → Int32} {n k : Nat} {ev : Prop} (g : Nat → Nat) (c d : Nat) (hc : c < k) (hd : d < k) (h : VC near n k ev g) : VC near n k ev (fun i => swp c d (g i)) := by
  obtain ⟨h1, h2, h3⟩ := h
  exact ⟨fun i hi => swp_lt hc hd (h1 i hi), fun i u hi hu hb e => h2 i u hi hu hb (swp_inj e), fun q => evF_swp hc hd (h3 q)⟩
theorem Rt_VC {near : Nat → Int32} {n k : Nat} {ev : Prop} {f : Nat → Nat} (h : Rt n (AdS near n k ev) f) : VC near n k ev f := by
  have h1 : ∀ i, i < n → f i < k := fun i hi => (h i hi).1
  exact ⟨h1, fun i u hi hu hb => (h i hi).2.1 u hu hb, fun q => (ev_iff h1).mp (fun i hi => (h i hi).2.2.1 q)⟩
theorem VC_Rt {near : Nat → Int32} {n k : Nat} {ev : Prop} {f : Nat → Nat} (h : Fst n (VC near n k ev) f) : Rt n (AdS near n k ev) f := by
  obtain ⟨h1, h2, h3⟩ := h.1
  have ht := Fst_turn h (fun g hg => hg.1) VC_swp
  exact fun i hi => ⟨h1 i hi, fun u hu hb => h2 i u hi hu hb, fun q => (ev_iff h1).mpr (h3 q) i hi, ht i hi⟩
theorem Fst_sub {N : Nat} {V W : (Nat → Nat) → Prop} {f : Nat → Nat} (hW : ∀ g, W g → V g) (hV : ∀ g, Fst N V g → W g) (h : Fst N W f) : Fst N V f := by
  obtain ⟨f0, h0⟩ := Fst_ex ⟨f, hW f h.1⟩ N
  have e := h.2 f0 (hV f0 h0)
  exact ⟨hW f h.1, fun g hg => leL_trans e (h0.2 g hg)⟩
theorem none_sub {N : Nat} {V W : (Nat → Nat) → Prop} (hV : ∀ g, Fst N V g → W g) (h : ∀ g, ¬ W g) : ∀ g, ¬ V g := by
  intro g hg
  obtain ⟨f0, h0⟩ := Fst_ex ⟨g, hg⟩ N
  exact h f0 (hV f0 h0)
theorem Mo_search_ok' {F n k : Nat} {t a y zz e1 e2 p2 : Int32} {near row many : Nat → Int32} (hn : n ≤ 12) (hk : k ≤ 12) (hk0 : ¬ p2 = 0 → ¬ k = 0) (hF : 40 ^ 18 < F) : OK (m_Mo_search F t (nI n) a y zz e1 e2 near row many (nI k) p2) (fun r => (r.1 = 1 ∧ ∃ f : Nat → Nat, (∀ i, i < n → r.2.1 i = nI (f i)) ∧ Fst n (VC near n k (¬ p2 = 0)) f) ∨ (r.1 = 0 ∧ ∀ g, ¬ VC near n k (¬ p2 = 0) g)) := by
  refine OK_mono (Mo_search_ok hn hk hk0 hF) ?_
  rintro r (⟨h1, f, h2, h3⟩ | ⟨h1, h2⟩)
  · exact Or.inl ⟨h1, f, h2, Fst_sub (fun g => Rt_VC) (fun g => VC_Rt) h3⟩
  · exact Or.inr ⟨h1, none_sub (N := n) (fun g => VC_Rt) h2⟩
/-- what is shown of a colouring -/
def shows (n : Nat) (f : Nat → Nat) (co : Nat → Int32) : Prop := ∀ v, v < 12 → co v = if v < n then nI (f v) else -1
def leastIs (near : Nat → Int32) (n k : Nat) (f : Nat → Nat) : Prop := k ≤ n ∧ (∀ j, j < k → ∀ g, ¬ VC near n j False g) ∧ Fst n (VC near n k False) f
theorem VC_id {near : Nat → Int32} {n : Nat} : VC near n n False (fun i => i) := ⟨fun i hi => hi, fun i u hi hu hb e => by dsimp only at e; omega, fun q => q.elim⟩
theorem VC_ev {near : Nat → Int32} {n k : Nat} {ev ev' : Prop} (h : ev ↔ ev') : VC near n k ev = VC near n k ev' := by rw [propext h]
theorem Mo_least_ok {F n : Nat} {t a y zz e1 e2 : Int32} {near co row many : Nat → Int32} (hn : n ≤ 12) (hF : 40 ^ 18 < F) : OK (m_Mo_least F t (nI n) a y zz e1 e2 near co row many) (fun r => ∃ (k : Nat) (f : Nat → Nat), r.1 = nI k ∧ r.2.1 = 0 ∧ leastIs near n k f ∧ shows n f r.2.2.1) := by
  have hF12 : 100 < F := by omega
  have hev : (¬ (0 : Int32) = 0) ↔ False := ⟨fun q => q rfl, fun q => q.elim⟩
  unfold m_Mo_least
  refine OK_for n (fun k z => ∃ row many : Nat → Int32, z = (nI k, row, many) ∧ ∀ j, j < k → ∀ g, ¬ VC near n j False g) ?_ ?_ F 0 _ (by omega) ⟨row, many, rfl, fun j hj => by omega⟩ (by omega)
  · rintro k1 z ⟨row, many, rfl, hno⟩
    dsimp only
    refine OK_gM (Mo_search_ok' hn hn (fun q => absurd rfl q) hF) ?_
    rintro ⟨q, row2, many2⟩ (⟨rfl, f, hrow, hf⟩ | ⟨rfl, h2⟩)
    · dsimp only
      rw [if_neg (show ¬ (1 : Int32) = 0 by decide)]
      refine OK_gM (Mo_keep_ok hn (by omega)) ?_
      intro co2 hco
      rw [VC_ev hev] at hf
      refine OK_some ⟨n, f, rfl, rfl, ⟨Nat.le_refl _, hno, hf⟩, fun v hv => ?_⟩
      show co2 v = _
      rw [hco v hv]
      by_cases q : v < n
      · rw [if_pos ⟨by decide, q⟩, if_pos q]; exact hrow v q
      · rw [if_neg (fun w => q w.2), if_neg q]
    · rw [VC_ev hev] at h2
      exact absurd VC_id (h2 _)
  · rintro k1 k z hk ⟨row, many, rfl, hno⟩ hk1
    dsimp only
    refine OK_gM (Mo_search_ok' hn (by omega : k ≤ 12) (fun q => absurd rfl q) hF) ?_
    rintro ⟨q, row2, many2⟩ (⟨rfl, f, hrow, hf⟩ | ⟨rfl, h2⟩)
    · dsimp only
      rw [if_neg (show ¬ (1 : Int32) = 0 by decide)]
      refine OK_gM (Mo_keep_ok hn (by omega)) ?_
      intro co2 hco
      rw [VC_ev hev] at hf
      refine OK_some ⟨k, f, rfl, rfl, ⟨by omega, hno, hf⟩, fun v hv => ?_⟩
      show co2 v = _
      rw [hco v hv]
      by_cases q : v < n
      · rw [if_pos ⟨by decide, q⟩, if_pos q]; exact hrow v q
      · rw [if_neg (fun w => q w.2), if_neg q]
    · dsimp only
      rw [if_pos rfl, gB_eq, nI_1]
      rw [VC_ev hev] at h2
      refine hk1 _ ⟨row2, many2, rfl, fun j hj => ?_⟩
      by_cases e : j = k
      · rw [e]; exact h2
      · exact hno j (by omega)
/-- the answer of even -/
def evenIs (near : Nat → Int32) (n k : Nat) (r : Int32) (co : Nat → Int32) : Prop := (r = 1 ∧ ∃ f, Fst n (VC near n k True) f ∧ shows n f co) ∨ (r = 0 ∧ (∀ g, ¬ VC near n k True g) ∧ ∀ v, v < 12 → co v = -1)
theorem Mo_even_ok {F n k : Nat} {t a y zz e1 e2 : Int32} {near co row many : Nat → Int32} (hn : n ≤ 12) (hk : k ≤ 12) (hk0 : ¬ k = 0) (hF : 40 ^ 18 < F) : OK (m_Mo_even F t (nI n) a y zz e1 e2 near co row many (nI k)) (fun r => r.2.1 = 0 ∧ evenIs near n k r.1 r.2.2.1) := by
  have hev : (¬ (1 : Int32) = 0) ↔ True := ⟨fun _ => trivial, fun _ => by decide⟩
  unfold m_Mo_even
  rw [if_neg (show ¬ nI k < 1 from nI_nlt (a := k) (b := 1) (by omega) (by omega)), if_pos (show nI k ≤ 12 from nI_le (a := k) (b := 12) hk (by omega))]
  refine OK_gM (Mo_search_ok' hn hk (fun _ => hk0) hF) ?_
  rintro ⟨q, row2, many2⟩ hq
  dsimp only at hq ⊢
  rw [VC_ev hev] at hq
  refine OK_gM (Mo_keep_ok hn (by omega)) ?_
  intro co2 hco
  rcases hq with ⟨rfl, f, hrow, hf⟩ | ⟨rfl, h2⟩
  · rw [if_neg (show ¬ (1 : Int32) = 0 by decide)]
    refine OK_some ⟨rfl, Or.inl ⟨rfl, f, hf, fun v hv => ?_⟩⟩
    show co2 v = _
    rw [hco v hv]
    by_cases q : v < n
    · rw [if_pos ⟨by decide, q⟩, if_pos q]; exact hrow v q
    · rw [if_neg (fun w => q w.2), if_neg q]
  · rw [if_pos rfl]
    refine OK_some ⟨rfl, Or.inr ⟨rfl, h2, fun v hv => ?_⟩⟩
    show co2 v = _
    rw [hco v hv, if_neg (fun w => w.1 rfl)]
theorem Mo_even_no {F : Nat} {t n' a y zz e1 e2 p : Int32} {near co row many : Nat → Int32} (hp : p < 1 ∨ ¬ p ≤ 12) : m_Mo_even F t n' a y zz e1 e2 near co row many p = some (-1, 0, co, row, many) := by
  unfold m_Mo_even
  rcases hp with hp | hp
  · rw [if_pos hp]
  · by_cases q : p < 1
    · rw [if_pos q]
    · rw [if_neg q, if_neg hp]
theorem leastIs_uniq {near : Nat → Int32} {n k k' : Nat} {f f' : Nat → Nat} (h : leastIs near n k f) (h' : leastIs near n k' f') : k = k' ∧ eqB f f' n := by
  have e : k = k' := by
    rcases Nat.lt_trichotomy k k' with q | q | q
    · exact absurd h.2.2.1 (h'.2.1 k q f)
    · exact q
    · exact absurd h'.2.2.1 (h.2.1 k' q f')
  subst e
  exact ⟨rfl, Fst_uniq h.2.2 h'.2.2⟩
