/-! PURE, 25: how often each colour stands; even shares -/
def cntc (f : Nat → Nat) (c : Nat) : Nat → Nat
  | 0 => 0
  | i + 1 => cntc f c i + if f i = c then 1 else 0
def sumN : Nat → (Nat → Nat) → Nat
  | 0, _ => 0
  | k + 1, u => sumN k u + u k
def fullN : Nat → Nat → (Nat → Nat) → Nat
  | 0, _, _ => 0
  | k + 1, s, u => fullN k s u + if s < u k then 1 else 0
theorem sumN_s (k : Nat) (u : Nat → Nat) : sumN (k + 1) u = sumN k u + u k := rfl
theorem fullN_s (k s : Nat) (u : Nat → Nat) : fullN (k + 1) s u = fullN k s u + if s < u k then 1 else 0 := rfl
theorem cntc_s (f : Nat → Nat) (c i : Nat) : cntc f c (i + 1) = cntc f c i + if f i = c then 1 else 0 := rfl
theorem sumN_eq {u t : Nat → Nat} : ∀ k, (∀ c, c < k → u c = t c) → sumN k u = sumN k t := by
  intro k
  induction k with
  | zero => intro _; rfl
  | succ k ih => intro h; rw [sumN_s, sumN_s, ih (fun c hc => h c (by omega)), h k (by omega)]
theorem fullN_eq {u t : Nat → Nat} {s : Nat} : ∀ k, (∀ c, c < k → u c = t c) → fullN k s u = fullN k s t := by
  intro k
  induction k with
  | zero => intro _; rfl
  | succ k ih => intro h; rw [fullN_s, fullN_s, ih (fun c hc => h c (by omega)), h k (by omega)]
theorem sumN_inc {u : Nat → Nat} {x : Nat} : ∀ k, sumN k (fun d => u d + if x = d then 1 else 0) = sumN k u + if x < k then 1 else 0 := by
  intro k
  induction k with
  | zero => rfl
  | succ k ih =>
    rw [sumN_s, sumN_s, ih]
    by_cases h : x = k
    · subst h; rw [if_neg (by omega), if_pos rfl, if_pos (by omega)]; omega
    · by_cases h2 : x < k
      · rw [if_pos h2, if_neg h, if_pos (by omega)]; omega
      · rw [if_neg h2, if_neg h, if_neg (by omega)]; omega
theorem fullN_inc {u : Nat → Nat} {x s : Nat} : ∀ k, fullN k s (fun d => u d + if x = d then 1 else 0) = fullN k s u + if x < k ∧ u x = s then 1 else 0 := by
  intro k
  induction k with
  | zero => rfl
  | succ k ih =>
    rw [fullN_s, fullN_s, ih]
    by_cases h : x = k
    · subst h
      rw [if_neg (show ¬ (x < x ∧ u x = s) by omega), if_pos rfl]
      by_cases h2 : u x = s
      · rw [if_pos (show s < u x + 1 by omega), if_neg (show ¬ s < u x by omega), if_pos (show x < x + 1 ∧ u x = s from ⟨by omega, h2⟩)]
      · rw [if_neg (show ¬ (x < x + 1 ∧ u x = s) from fun q => h2 q.2)]
        by_cases h3 : s < u x
        · rw [if_pos (show s < u x + 1 by omega), if_pos h3]
        · rw [if_neg (show ¬ s < u x + 1 by omega), if_neg h3]
    · rw [if_neg h, Nat.add_zero]
      by_cases h2 : x < k ∧ u x = s
      · rw [if_pos h2, if_pos (show x < k + 1 ∧ u x = s from ⟨by omega, h2.2⟩)]; omega
      · rw [if_neg h2, if_neg (show ¬ (x < k + 1 ∧ u x = s) from fun q => h2 ⟨by omega, q.2⟩)]; omega
theorem sumN_full {t : Nat → Nat} {s : Nat} : ∀ k, (∀ c, c < k → s ≤ t c ∧ t c ≤ s + 1) → sumN k t = k * s + fullN k s t := by
  intro k
  induction k with
  | zero => intro _; show 0 = 0 * s + 0; omega
  | succ k ih =>
    intro h
    have h1 := h k (by omega)
    rw [sumN_s, fullN_s, ih (fun c hc => h c (by omega)), Nat.succ_mul]
    by_cases h2 : s < t k
    · rw [if_pos h2]; omega
    · rw [if_neg h2]; omega
theorem sumN_le {t : Nat → Nat} {s : Nat} : ∀ k, (∀ c, c < k → t c ≤ s + 1) → sumN k t ≤ k * s + fullN k s t ∧ ((∃ c, c < k ∧ t c < s) → sumN k t < k * s + fullN k s t) := by
  intro k
  induction k with
  | zero => intro _; exact ⟨Nat.zero_le _, fun ⟨c, hc, _⟩ => by omega⟩
  | succ k ih =>
    intro h
    have h1 := h k (by omega)
    obtain ⟨i1, i2⟩ := ih (fun c hc => h c (by omega))
    rw [sumN_s, fullN_s, Nat.succ_mul]
    constructor
    · by_cases h2 : s < t k
      · rw [if_pos h2]; omega
      · rw [if_neg h2]; omega
    · rintro ⟨c, hc, hl⟩
      by_cases e : c = k
      · subst e; rw [if_neg (by omega)]; omega
      · have := i2 ⟨c, by omega, hl⟩
        by_cases h2 : s < t k
        · rw [if_pos h2]; omega
        · rw [if_neg h2]; omega
theorem fullN_le {u t : Nat → Nat} {s : Nat} : ∀ k, (∀ c, c < k → u c ≤ t c) → fullN k s u ≤ fullN k s t ∧ ((∃ c, c < k ∧ u c ≤ s ∧ s < t c) → fullN k s u < fullN k s t) := by
  intro k
  induction k with
  | zero => intro _; exact ⟨Nat.zero_le _, fun ⟨c, hc, _⟩ => by omega⟩
  | succ k ih =>
    intro h
    have h1 := h k (by omega)
    obtain ⟨i1, i2⟩ := ih (fun c hc => h c (by omega))
    rw [fullN_s, fullN_s]
    constructor
    · by_cases h2 : s < u k
      · rw [if_pos h2, if_pos (by omega)]; omega
      · rw [if_neg h2]; omega
    · rintro ⟨c, hc, hl, hg⟩
      by_cases e : c = k
      · subst e; rw [if_neg (by omega), if_pos hg]; omega
      · have := i2 ⟨c, by omega, hl, hg⟩
        by_cases h2 : s < u k
        · rw [if_pos h2, if_pos (by omega)]; omega
        · rw [if_neg h2]; omega
/-- a colour that shall stand once more is open -/
theorem ev_open {k s o c : Nat} {u t : Nat → Nat} (ht : ∀ c, c < k → s ≤ t c ∧ t c ≤ s + 1) (hu : ∀ c, c < k → u c ≤ t c) (hs : sumN k t = k * s + o) (hc : c < k) (hl : u c < t c) : u c < s ∨ (u c = s ∧ fullN k s u < o) := by
  have e := sumN_full k ht
  have h1 := (ht c hc).2
  by_cases q : u c < s
  · exact Or.inl q
  · refine Or.inr ⟨by omega, ?_⟩
    have := (fullN_le k hu).2 ⟨c, hc, (by omega : u c ≤ s), (by omega : s < t c)⟩
    omega
theorem ev_fill {k s o : Nat} {t : Nat → Nat} (ht : ∀ c, c < k → t c ≤ s + 1) (hf : fullN k s t ≤ o) (hs : sumN k t = k * s + o) : ∀ c, c < k → s ≤ t c := by
  intro c hc
  by_cases q : s ≤ t c
  · exact q
  · have := (sumN_le k ht).2 ⟨c, hc, by omega⟩
    omega
theorem sumN_0 {u : Nat → Nat} : ∀ k, (∀ c, c < k → u c = 0) → sumN k u = 0 := by
  intro k
  induction k with
  | zero => intro _; rfl
  | succ k ih => intro h; rw [sumN_s, ih (fun c hc => h c (by omega)), h k (by omega)]
theorem fullN_0 {u : Nat → Nat} {s : Nat} : ∀ k, (∀ c, c < k → u c = 0) → fullN k s u = 0 := by
  intro k
  induction k with
  | zero => intro _; rfl
  | succ k ih => intro h; rw [fullN_s, ih (fun c hc => h c (by omega)), h k (by omega), if_neg (by omega)]
theorem sum_cnt {f : Nat → Nat} {k : Nat} : ∀ i, (∀ u, u < i → f u < k) → sumN k (fun c => cntc f c i) = i := by
  intro i
  induction i with
  | zero => intro _; exact sumN_0 k (fun c _ => rfl)
  | succ i ih =>
    intro h
    have e := sumN_inc (u := fun c => cntc f c i) (x := f i) k
    rw [ih (fun u hu => h u (by omega)), if_pos (h i (by omega))] at e
    exact e
theorem cntc_mono {f : Nat → Nat} {c i : Nat} : ∀ j, i ≤ j → cntc f c i ≤ cntc f c j := by
  intro j
  induction j with
  | zero => intro h; rw [show i = 0 by omega]; exact Nat.le_refl _
  | succ j ih =>
    intro h
    by_cases e : i = j + 1
    · rw [e]; exact Nat.le_refl _
    · have := ih (by omega)
      rw [cntc_s]; omega
theorem cntc_eqB {f g : Nat → Nat} {c : Nat} : ∀ i, eqB f g i → cntc f c i = cntc g c i := by
  intro i
  induction i with
  | zero => intro _; rfl
  | succ i ih => intro h; rw [cntc_s, cntc_s, ih (eqB_le h (by omega)), h i (by omega)]
theorem cntc_swp {f : Nat → Nat} {a b c : Nat} : ∀ i, cntc (fun u => swp a b (f u)) c i = cntc f (swp a b c) i := by
  intro i
  induction i with
  | zero => rfl
  | succ i ih =>
    rw [cntc_s, cntc_s, ih]
    by_cases h : f i = swp a b c
    · rw [if_pos h, if_pos (by rw [h, swp_swp])]
    · rw [if_neg h, if_neg (fun q => h (by rw [← q, swp_swp]))]
def evF (N k : Nat) (f : Nat → Nat) : Prop := ∀ c, c < k → N / k ≤ cntc f c N ∧ cntc f c N ≤ N / k + 1
def evA (N k : Nat) (f : Nat → Nat) (i c : Nat) : Prop := cntc f c i < N / k ∨ (cntc f c i = N / k ∧ fullN k (N / k) (fun d => cntc f d i) < N % k)
theorem evA_eqB {N k : Nat} {f g : Nat → Nat} {i c : Nat} (h : eqB f g i) (ha : evA N k f i c) : evA N k g i c := by
  unfold evA at *
  have e : ∀ d, cntc f d i = cntc g d i := fun d => cntc_eqB i h
  rw [← e c, ← fullN_eq k (fun d _ => e d)]
  exact ha
theorem evF_swp {N k : Nat} {f : Nat → Nat} {a b : Nat} (ha : a < k) (hb : b < k) (h : evF N k f) : evF N k (fun u => swp a b (f u)) := by
  intro c hc
  rw [cntc_swp]
  exact h _ (swp_lt ha hb hc)
theorem ev_iff {N k : Nat} {f : Nat → Nat} (hf : ∀ i, i < N → f i < k) : (∀ i, i < N → evA N k f i (f i)) ↔ evF N k f := by
  have hN : k * (N / k) + N % k = N := Nat.div_add_mod N k
  have hsum : sumN k (fun c => cntc f c N) = N := sum_cnt N hf
  constructor
  · intro h
    have inv : ∀ i, i ≤ N → (∀ c, c < k → cntc f c i ≤ N / k + 1) ∧ fullN k (N / k) (fun d => cntc f d i) ≤ N % k := by
      intro i
      induction i with
      | zero => intro _; exact ⟨fun c _ => Nat.zero_le _, by rw [fullN_0 (u := fun d => cntc f d 0) k (fun c _ => rfl)]; exact Nat.zero_le _⟩
      | succ i ih =>
        intro hi
        obtain ⟨i1, i2⟩ := ih (by omega)
        have ha := h i (by omega)
        have e := fullN_inc (u := fun c => cntc f c i) (x := f i) (s := N / k) k
        try dsimp only at e
        constructor
        · intro c hc
          rw [cntc_s]
          by_cases q : f i = c
          · subst q
            rw [if_pos rfl]
            rcases ha with ha | ha <;> omega
          · rw [if_neg q]; exact i1 c hc
        · show fullN k (N / k) (fun d => cntc f d i + if f i = d then 1 else 0) ≤ N % k
          rw [e]
          rcases ha with ha | ha
          · rw [if_neg (fun q => by omega)]; exact i2
          · have := ha.2
            by_cases q : f i < k ∧ cntc f (f i) i = N / k
            · rw [if_pos q]; omega
            · rw [if_neg q]; exact i2
    obtain ⟨j1, j2⟩ := inv N (Nat.le_refl _)
    exact fun c hc => ⟨ev_fill (t := fun c => cntc f c N) j1 j2 (by rw [hsum, hN]) c hc, j1 c hc⟩
  · intro h i hi
    refine ev_open (t := fun c => cntc f c N) (u := fun c => cntc f c i) h (fun c _ => cntc_mono N (by omega)) (by rw [hsum, hN]) (hf i hi) ?_
    have := cntc_mono (f := f) (c := f i) (i := i + 1) N (by omega)
    rw [cntc_s, if_pos rfl] at this
    try dsimp only
    omega
