/-! PURE, 33: the class's least and even -/
theorem Fst_eq {N : Nat} {V W : (Nat → Nat) → Prop} {f : Nat → Nat} (h : ∀ g, V g ↔ W g) (hf : Fst N V f) : Fst N W f := ⟨(h f).mp hf.1, fun g hg => hf.2 g ((h g).mpr hg)⟩
theorem cntT_full {T : Nat → Bool} {f : Nat → Nat} {c : Nat} : ∀ n, (∀ i, i < n → T i = true) → cntT T f c n = cntc f c n := by
  intro n
  induction n with
  | zero => intro _; rfl
  | succ n ih =>
    intro h
    rw [cntT_s, cntc_s, ih (fun i hi => h i (by omega))]
    by_cases q : f n = c
    · rw [if_pos q, if_pos ⟨h n (by omega), q⟩]
    · rw [if_neg q, if_neg (fun w => q w.2)]
theorem cT_full {T : Nat → Bool} : ∀ n, (∀ i, i < n → T i = true) → cT T n = n := by
  intro n
  induction n with
  | zero => intro _; rfl
  | succ n ih => intro h; rw [cT_s, ih (fun i hi => h i (by omega)), if_pos (h n (by omega))]
theorem VC_Pt {near near' row : Nat → Int32} {n k K s : Nat} {T : Nat → Bool} {ev : Prop} {f : Nat → Nat} (hsym : ∀ i j, i < n → j < n → bt (near i) j = true → bt (near j) i = true) (hirr : ∀ i, i < n → ¬ bt (near i) i = true) (hnr : ∀ i, i < n → near' i = near i) (hrow : ∀ i c, i < n → c < K → (bt (row i) c = true ↔ c < k)) (hK : k ≤ K) (hev : ev → K = k ∧ s = n / k) (hT : ∀ i, i < n → T i = true) : Pt (bt2 near') (bt2 row) n K T ev s (fun _ => 0) f ↔ VC near n k ev f := by
  constructor
  · rintro ⟨p1, p2, p3⟩
    refine ⟨fun i hi => ?_, fun i u hi hu hb e => ?_, fun q c hc => ?_⟩
    · obtain ⟨a, b⟩ := p1 i hi (hT i hi)
      exact (hrow i _ hi a).mp b
    · exact p2 i u hi (by omega) (hT i hi) (hT u (by omega)) (by show bt (near' i) u = true; rw [hnr i hi]; exact hb) e.symm
    · obtain ⟨e1, e2⟩ := hev q
      have := p3 q c (by omega)
      rw [cntT_full n hT, Nat.zero_add, e2] at this
      exact this
  · rintro ⟨p1, p2, p3⟩
    refine ⟨fun i hi _ => ⟨by have := p1 i hi; omega, (hrow i _ hi (by have := p1 i hi; omega)).mpr (p1 i hi)⟩, fun i j hi hj _ _ hn => ?_, fun q c hc => ?_⟩
    · have hn' : bt (near i) j = true := by rw [← hnr i hi]; exact hn
      rcases Nat.lt_trichotomy i j with h | h | h
      · exact p2 j i hj h (hsym i j hi hj hn')
      · subst h; exact absurd hn' (hirr i hi)
      · exact fun e => p2 i j hi h hn' e.symm
    · obtain ⟨e1, e2⟩ := hev q
      rw [cntT_full n hT, Nat.zero_add, e2]
      exact p3 q c (by omega)
theorem mask_bt {k c : Nat} (hk : k ≤ 12) (hc : c < 32) : bt (((1 : Int32) <<< (nI k &&& 31)) - 1) c = true ↔ c < k := by rw [b_full k (by omega) c hc, decide_eq_true_iff]
theorem gF_at {α : Type} (M : Nat → α) (i : Nat) (r : α) : gF M i r i = r := if_pos rfl
theorem GR_irr {n k : Nat} {near tail head : Nat → Int32} (h : GR n k near tail head) : ∀ i, i < n → ¬ bt (near i) i = true := fun i hi hb => by
  have hn := h.1
  have := (h.2.2.1 i i (by omega) (by omega) hb).2.2.1
  exact this rfl
theorem GR_sym' {n k : Nat} {near tail head : Nat → Int32} (h : GR n k near tail head) : ∀ i j, i < n → j < n → bt (near i) j = true → bt (near j) i = true := fun i j hi hj hb => by
  have hn := h.1
  exact GR_sym h (by omega) (by omega) hb
theorem Pai_startNodes_eq {F n : Nat} {a1 a2 a3 a4 a5 a6 b1 b2 p : Int32} {pnear uses near : Nat → Int32} {free : Nat → Nat → Int32} (hn : n ≤ 12) : m_Pai_startNodes F a1 a2 a3 a4 a5 a6 pnear uses (nI n) b1 b2 near free p = some (nI n, 0, 12, 16, 0, 0, va_cpy near pnear 0 0 n, fillA 12 0 uses, gF free 0 (fillA 16 p (free 0))) := by
  unfold m_Pai_startNodes m_Pai_start
  show gC _ _ = _
  rw [gC_t (cpyB_n (by omega) (by omega) (by omega)), gC_t (show inb 0 18 = true from inb_nI (i := 0) (by omega) (by omega)), nI_clamp (by omega)]
  rfl
theorem Pai_nodes_ok {F n ka k : Nat} {paint pnear uses near tail head : Nat → Int32} {free : Nat → Nat → Int32} (h : GR n ka near tail head) (hk : k ≤ 12) (hF : 100 < F) : OK (m_Pai_paintFirst F (nI n) 0 12 16 0 0 paint (va_cpy near pnear 0 0 n) (fillA 12 0 uses) (gF free 0 (fillA 16 (((1 : Int32) <<< (nI k &&& 31)) - 1) (free 0)))) (fun r => (r.1 = 1 ∧ ∃ f : Nat → Nat, (∀ i, i < n → r.2.2.1 i = nI (f i)) ∧ Fst n (VC near n k False) f) ∨ (r.1 = 0 ∧ ∀ g, ¬ VC near n k False g)) := by
  have hn := h.1
  have hnr : ∀ i, i < n → va_cpy near pnear 0 0 n i = near i := fun i hi => sb_cpy0 hi
  have hrow : ∀ i, i < n → gF free 0 (fillA 16 (((1 : Int32) <<< (nI k &&& 31)) - 1) (free 0)) 0 i = ((1 : Int32) <<< (nI k &&& 31)) - 1 := fun i hi => by
    rw [gF_at]; unfold fillA; rw [if_pos (by omega)]
  have hPV : ∀ g, Pt (bt2 (va_cpy near pnear 0 0 n)) (bt2 (gF free 0 (fillA 16 (((1 : Int32) <<< (nI k &&& 31)) - 1) (free 0)) 0)) n 12 (btT (((1 : Int32) <<< (nI n &&& 31)) - 1)) (¬ (0 : Int32) = 0) 16 (fun _ => 0) g ↔ VC near n k False g := by
    intro g
    rw [VC_Pt (near := near) (k := k) (GR_sym' h) (GR_irr h) hnr (fun i c hi hc => by show bt (gF free 0 _ 0 i) c = true ↔ _; rw [hrow i hi]; exact mask_bt hk (by omega)) hk (fun q => absurd rfl q) (fun i hi => (mask_bt hn (by omega)).mpr hi)]
    rw [VC_ev (show (¬ (0 : Int32) = 0) ↔ False from ⟨fun q => q rfl, fun q => q.elim⟩)]
  refine OK_mono (Pai_first_ok (N := n) (K := 12) (s := 16) (o := 0) (u := fun _ => 0) (by omega) (fun i j hi hj hb => ?_) (fun i hi hb => ?_) hF (fun i hi c h1 h2 => ?_) ⟨by omega, fun _ => rfl, fun q => absurd rfl q⟩) ?_
  · rw [hnr i hi] at hb
    rw [hnr j hj]
    exact GR_sym' h i j hi hj hb
  · rw [hnr i hi] at hb
    exact GR_irr h i hi hb
  · rw [hrow i hi]
    exact bt_f (fun w => by have := (mask_bt hk h2).mp w; omega)
  · rintro r (⟨h1, f, h2, h3⟩ | ⟨h1, h2⟩)
    · exact Or.inl ⟨h1, f, h2, Fst_eq hPV h3⟩
    · exact Or.inr ⟨h1, fun g hg => h2 g ((hPV g).mpr hg)⟩
theorem Pai_even_ok {F n ka k : Nat} {paint pnear uses near tail head : Nat → Int32} {free : Nat → Nat → Int32} (h : GR n ka near tail head) (hk : k ≤ 12) (hk0 : ¬ k = 0) (hF : 100 < F) : OK (m_Pai_paintFirst F (nI n) 1 (nI k) (nI (n / k)) (nI (n % k)) 0 paint (va_cpy near pnear 0 0 n) (fillA 12 0 uses) (gF free 0 (fillA 16 (((1 : Int32) <<< (nI k &&& 31)) - 1) (free 0)))) (fun r => (r.1 = 1 ∧ ∃ f : Nat → Nat, (∀ i, i < n → r.2.2.1 i = nI (f i)) ∧ Fst n (VC near n k True) f) ∨ (r.1 = 0 ∧ ∀ g, ¬ VC near n k True g)) := by
  have hn := h.1
  have hs : n / k ≤ 12 := Nat.le_trans (Nat.div_le_self _ _) hn
  have ho : n % k < 13 := Nat.lt_of_le_of_lt (Nat.mod_le _ _) (by omega)
  have hnr : ∀ i, i < n → va_cpy near pnear 0 0 n i = near i := fun i hi => sb_cpy0 hi
  have hrow : ∀ i, i < n → gF free 0 (fillA 16 (((1 : Int32) <<< (nI k &&& 31)) - 1) (free 0)) 0 i = ((1 : Int32) <<< (nI k &&& 31)) - 1 := fun i hi => by
    rw [gF_at]; unfold fillA; rw [if_pos (by omega)]
  have hPV : ∀ g, Pt (bt2 (va_cpy near pnear 0 0 n)) (bt2 (gF free 0 (fillA 16 (((1 : Int32) <<< (nI k &&& 31)) - 1) (free 0)) 0)) n k (btT (((1 : Int32) <<< (nI n &&& 31)) - 1)) (¬ (1 : Int32) = 0) (n / k) (fun _ => 0) g ↔ VC near n k True g := by
    intro g
    rw [VC_Pt (near := near) (k := k) (GR_sym' h) (GR_irr h) hnr (fun i c hi hc => by show bt (gF free 0 _ 0 i) c = true ↔ _; rw [hrow i hi]; exact mask_bt hk (by omega)) (Nat.le_refl _) (fun _ => ⟨rfl, rfl⟩) (fun i hi => (mask_bt hn (by omega)).mpr hi)]
    rw [VC_ev (show (¬ (1 : Int32) = 0) ↔ True from ⟨fun _ => trivial, fun _ => by decide⟩)]
  refine OK_mono (Pai_first_ok (N := n) (K := k) (s := n / k) (o := n % k) (u := fun _ => 0) (by omega) (fun i j hi hj hb => ?_) (fun i hi hb => ?_) hF (fun i hi c h1 h2 => ?_) ⟨hk, fun q => absurd q (by decide), fun _ => ⟨rfl, by omega, rfl, by omega, ?_, fun c hc => ?_, fun c _ => Nat.zero_le _, ?_, ?_⟩⟩) ?_
  · rw [hnr i hi] at hb
    rw [hnr j hj]
    exact GR_sym' h i j hi hj hb
  · rw [hnr i hi] at hb
    exact GR_irr h i hi hb
  · rw [hrow i hi]
    exact bt_f (fun w => by have := (mask_bt hk h2).mp w; omega)
  · rw [fullN_0 k (fun c _ => rfl)]; rfl
  · unfold fillA
    rw [if_pos (by omega)]; rfl
  · rw [fullN_0 k (fun c _ => rfl)]; exact Nat.zero_le _
  · rw [sumN_0 k (fun c _ => rfl), cT_full n (fun i hi => (mask_bt hn (by omega)).mpr hi), Nat.zero_add]
    exact (Nat.div_add_mod n k).symm
  · rintro r (⟨h1, f, h2, h3⟩ | ⟨h1, h2⟩)
    · exact Or.inl ⟨h1, f, h2, Fst_eq hPV h3⟩
    · exact Or.inr ⟨h1, fun g hg => h2 g ((hPV g).mpr hg)⟩
theorem CS_showPaint_eq {F n : Nat} {b1 b2 a1 a2 a3 a4 a5 a6 : Int32} {paint shown : Nat → Int32} (hn : n ≤ 12) : m_CS_showPaint F (nI n) b1 b2 a1 a2 a3 a4 a5 a6 paint shown = some (va_cpy paint (fillA 12 (-1) shown) 0 0 n) := by
  unfold m_CS_showPaint
  rw [gC_t (cpyB_n (by omega) (by omega) (by omega)), nI_clamp (by omega)]
  rfl
theorem shows_of {n : Nat} {f : Nat → Nat} {paint shown : Nat → Int32} (h : ∀ i, i < n → paint i = nI (f i)) : shows n f (va_cpy paint (fillA 12 (-1) shown) 0 0 n) := by
  intro v hv
  by_cases q : v < n
  · rw [sb_cpy0 q, if_pos q]; exact h v q
  · rw [pk_cpy_out (Or.inr (by omega)), if_neg q]
    unfold fillA
    rw [if_pos hv]
theorem CS_least_ok {F n ka : Nat} {b1 b2 a1 a2 a3 a4 a5 a6 : Int32} {near tail head paint pnear uses shown : Nat → Int32} {free : Nat → Nat → Int32} (h : GR n ka near tail head) (hF : 100 < F) : OK (m_CS_least F (nI n) b1 b2 near a1 a2 a3 a4 a5 a6 paint pnear uses shown free) (fun r => ∃ (k : Nat) (f : Nat → Nat), r.1 = nI k ∧ leastIs near n k f ∧ shows n f r.2.2.2.2.2.2.2.2.2.2.1) := by
  have hn := h.1
  unfold m_CS_least
  refine OK_for n (fun k z => ∃ (a1 a2 a3 a4 a5 a6 : Int32) (paint pnear uses : Nat → Int32) (free : Nat → Nat → Int32), z = (nI k, a1, a2, a3, a4, a5, a6, paint, pnear, uses, free) ∧ ∀ j, j < k → ∀ g, ¬ VC near n j False g) ?_ ?_ F 0 _ (by omega) ⟨_, _, _, _, _, _, _, _, _, _, rfl, fun j hj => by omega⟩ (by omega)
  · rintro k1 z ⟨a1, a2, a3, a4, a5, a6, paint, pnear, uses, free, rfl, hno⟩
    try dsimp only
    rw [if_neg (show ¬ (12 : Int32) < nI n from nI_nlt (a := 12) (b := n) hn (by omega))]
    refine OK_gM (P' := fun a => a = _) ⟨_, Pai_startNodes_eq hn, rfl⟩ ?_
    rintro _ rfl
    try dsimp only
    refine OK_gM (Pai_nodes_ok h hn hF) ?_
    rintro ⟨q, bn, pt, us, fr⟩ (⟨rfl, f, hrow, hf⟩ | ⟨rfl, h2⟩)
    · try dsimp only
      rw [if_neg (show ¬ (1 : Int32) = 0 by decide)]
      refine OK_gM (P' := fun a => a = _) ⟨_, CS_showPaint_eq hn, rfl⟩ ?_
      rintro _ rfl
      exact OK_some ⟨n, f, rfl, ⟨Nat.le_refl _, hno, hf⟩, shows_of hrow⟩
    · exact absurd VC_id (h2 _)
  · rintro k1 k z hk ⟨a1, a2, a3, a4, a5, a6, paint, pnear, uses, free, rfl, hno⟩ hk1
    try dsimp only
    rw [if_neg (show ¬ (12 : Int32) < nI k from nI_nlt (a := 12) (b := k) (by omega) (by omega))]
    refine OK_gM (P' := fun a => a = _) ⟨_, Pai_startNodes_eq hn, rfl⟩ ?_
    rintro _ rfl
    try dsimp only
    refine OK_gM (Pai_nodes_ok h (by omega) hF) ?_
    rintro ⟨q, bn, pt, us, fr⟩ (⟨rfl, f, hrow, hf⟩ | ⟨rfl, h2⟩)
    · try dsimp only
      rw [if_neg (show ¬ (1 : Int32) = 0 by decide)]
      refine OK_gM (P' := fun a => a = _) ⟨_, CS_showPaint_eq hn, rfl⟩ ?_
      rintro _ rfl
      exact OK_some ⟨k, f, rfl, ⟨by omega, hno, hf⟩, shows_of hrow⟩
    · try dsimp only
      rw [if_pos rfl, gB_eq, nI_1]
      refine hk1 _ ⟨_, _, _, _, _, _, _, _, _, _, rfl, fun j hj => ?_⟩
      by_cases e : j = k
      · rw [e]; exact h2
      · exact hno j (by omega)
theorem CS_showWhether_ok {F n : Nat} {b1 b2 a1 a2 a3 a4 a5 a6 p : Int32} {paint shown : Nat → Int32} {V : (Nat → Nat) → Prop} (hn : n ≤ 12) (hp : (p = 1 ∧ ∃ f : Nat → Nat, (∀ i, i < n → paint i = nI (f i)) ∧ Fst n V f) ∨ (p = 0 ∧ ∀ g, ¬ V g)) : OK (m_CS_showWhether F (nI n) b1 b2 a1 a2 a3 a4 a5 a6 paint shown p) (fun r => (r.1 = 1 ∧ ∃ f, Fst n V f ∧ shows n f r.2) ∨ (r.1 = 0 ∧ (∀ g, ¬ V g) ∧ ∀ v, v < 12 → r.2 v = -1)) := by
  unfold m_CS_showWhether
  rcases hp with ⟨rfl, f, h1, h2⟩ | ⟨rfl, h2⟩
  · rw [if_neg (show ¬ (1 : Int32) = 0 by decide)]
    refine OK_gM (P' := fun a => a = _) ⟨_, CS_showPaint_eq hn, rfl⟩ ?_
    rintro _ rfl
    exact OK_some (Or.inl ⟨rfl, f, h2, shows_of h1⟩)
  · rw [if_pos rfl]
    exact OK_some (Or.inr ⟨rfl, h2, fun v hv => by show fillA 12 (-1) shown v = -1; unfold fillA; rw [if_pos hv]⟩)
theorem CS_even_ok {F n ka k : Nat} {b1 b2 a1 a2 a3 a4 a5 a6 : Int32} {near tail head paint pnear uses shown : Nat → Int32} {free : Nat → Nat → Int32} (h : GR n ka near tail head) (hk : k ≤ 12) (hk0 : ¬ k = 0) (hF : 100 < F) : OK (m_CS_even F (nI n) b1 b2 near a1 a2 a3 a4 a5 a6 paint pnear uses shown free (nI k)) (fun r => evenIs near n k r.1 r.2.2.2.2.2.2.2.2.2.2.1) := by
  have hn := h.1
  unfold m_CS_even
  rw [if_neg (show ¬ nI k < 1 from nI_nlt (a := k) (b := 1) (by omega) (by omega)), if_pos (show nI k ≤ 12 from nI_le (a := k) (b := 12) hk (by omega))]
  refine OK_gM (P' := fun a => a = _) ⟨_, Pai_startNodes_eq hn, rfl⟩ ?_
  rintro _ rfl
  try dsimp only
  refine OK_gM (P' := fun a => a = (1, nI k, nI (n / k), nI (n % k))) ⟨_, ?_, rfl⟩ ?_
  · unfold m_Pai_shareEvenly
    rw [gB_eq, if_neg (show ¬ nI k ≤ 0 from nI_ge (a := 0) (b := k) (by omega) (by omega)), gC_t (decide_eq_true (nI_nz hk0 (by omega)))]
    show some _ = some _
    rw [(nI_div n (by omega) k (by omega) hk0).2, (nI_div n (by omega) k (by omega) hk0).1]
  rintro _ rfl
  try dsimp only
  refine OK_gM (Pai_even_ok h hk hk0 hF) ?_
  rintro ⟨q, bn, pt, us, fr⟩ hq
  try dsimp only at hq ⊢
  refine OK_gM (CS_showWhether_ok hn hq) ?_
  rintro ⟨q2, sh2⟩ hq2
  exact OK_some hq2
theorem CS_even_no {F : Nat} {n' b1 b2 a1 a2 a3 a4 a5 a6 p : Int32} {near paint pnear uses shown : Nat → Int32} {free : Nat → Nat → Int32} (hp : p < 1 ∨ ¬ p ≤ 12) : m_CS_even F n' b1 b2 near a1 a2 a3 a4 a5 a6 paint pnear uses shown free p = some (-1, a1, a2, a3, a4, a5, a6, paint, pnear, uses, shown, free) := by
  unfold m_CS_even
  rcases hp with hp | hp
  · rw [if_pos hp]
  · by_cases q : p < 1
    · rw [if_pos q]
    · rw [if_neg q, if_neg hp]
