/-! PURE, 28: painting, as such: items below N, near ones nr, free colours fr, colours below K, items to do T; shares s of uses u where ev -/
def cntT (T : Nat → Bool) (g : Nat → Nat) (c : Nat) : Nat → Nat
  | 0 => 0
  | i + 1 => cntT T g c i + if T i = true ∧ g i = c then 1 else 0
def cT (T : Nat → Bool) : Nat → Nat
  | 0 => 0
  | i + 1 => cT T i + if T i = true then 1 else 0
theorem cntT_s (T : Nat → Bool) (g : Nat → Nat) (c i : Nat) : cntT T g c (i + 1) = cntT T g c i + if T i = true ∧ g i = c then 1 else 0 := rfl
theorem cT_s (T : Nat → Bool) (i : Nat) : cT T (i + 1) = cT T i + if T i = true then 1 else 0 := rfl
def Pt (nr fr : Nat → Nat → Bool) (N K : Nat) (T : Nat → Bool) (ev : Prop) (s : Nat) (u g : Nat → Nat) : Prop :=
  (∀ i, i < N → T i = true → g i < K ∧ fr i (g i) = true) ∧ (∀ i j, i < N → j < N → T i = true → T j = true → nr i j = true → ¬ g i = g j) ∧ (ev → ∀ c, c < K → s ≤ u c + cntT T g c N ∧ u c + cntT T g c N ≤ s + 1)
/-- T' is T without it -/
def wo (N : Nat) (T T' : Nat → Bool) (it : Nat) : Prop := ∀ i, i < N → (T' i = true ↔ T i = true ∧ ¬ i = it)
def plus1 (u : Nat → Nat) (c : Nat) : Nat → Nat := fun d => u d + if c = d then 1 else 0
theorem cT_wo {T T' : Nat → Bool} {it : Nat} : ∀ N, wo N T T' it → T it = true → cT T N = cT T' N + if it < N then 1 else 0 := by
  intro N
  induction N with
  | zero => intro _ _; rfl
  | succ N ih =>
    intro h hit
    rw [cT_s, cT_s, ih (fun i hi => h i (by omega)) hit]
    have hN := h N (by omega)
    by_cases e : N = it
    · subst e
      rw [if_neg (by omega), if_pos hit, if_neg (fun q => (hN.mp q).2 rfl), if_pos (by omega)]
    · by_cases q : T N = true
      · rw [if_pos q, if_pos (hN.mpr ⟨q, e⟩)]
        by_cases l : it < N
        · rw [if_pos l, if_pos (by omega)]
        · rw [if_neg l, if_neg (by omega)]
      · rw [if_neg q, if_neg (fun w => q (hN.mp w).1)]
        by_cases l : it < N
        · rw [if_pos l, if_pos (by omega)]
        · rw [if_neg l, if_neg (by omega)]
theorem cntT_wo {T T' : Nat → Bool} {g : Nat → Nat} {it c : Nat} : ∀ N, wo N T T' it → T it = true → cntT T g c N = cntT T' g c N + if it < N ∧ g it = c then 1 else 0 := by
  intro N
  induction N with
  | zero => intro _ _; show 0 = 0 + _; rw [if_neg (by omega)]
  | succ N ih =>
    intro h hit
    rw [cntT_s, cntT_s, ih (fun i hi => h i (by omega)) hit]
    have hN := h N (by omega)
    by_cases e : N = it
    · subst e
      rw [if_neg (show ¬ (N < N ∧ g N = c) by omega), if_neg (show ¬ (T' N = true ∧ g N = c) from fun q => (hN.mp q.1).2 rfl)]
      by_cases q : g N = c
      · rw [if_pos ⟨hit, q⟩, if_pos ⟨by omega, q⟩]
      · rw [if_neg (fun w => q w.2), if_neg (fun w => q w.2)]
    · have e1 : (if T N = true ∧ g N = c then 1 else 0) = (if T' N = true ∧ g N = c then 1 else 0) := by
        by_cases q : T N = true ∧ g N = c
        · rw [if_pos q, if_pos ⟨hN.mpr ⟨q.1, e⟩, q.2⟩]
        · rw [if_neg q, if_neg (fun w => q ⟨(hN.mp w.1).1, w.2⟩)]
      have e2 : (if it < N + 1 ∧ g it = c then 1 else 0) = (if it < N ∧ g it = c then 1 else 0) := by
        by_cases q : it < N ∧ g it = c
        · rw [if_pos q, if_pos ⟨by omega, q.2⟩]
        · rw [if_neg q, if_neg (fun w => q ⟨by omega, w.2⟩)]
      rw [e1, e2]; omega
theorem cntT_congr {T : Nat → Bool} {g h : Nat → Nat} {c : Nat} : ∀ N, (∀ i, i < N → T i = true → g i = h i) → cntT T g c N = cntT T h c N := by
  intro N
  induction N with
  | zero => intro _; rfl
  | succ N ih =>
    intro hg
    rw [cntT_s, cntT_s, ih (fun i hi => hg i (by omega))]
    by_cases q : T N = true
    · rw [hg N (by omega) q]
    · rw [if_neg (fun w => q w.1), if_neg (fun w => q w.1)]
theorem Pt_congr {nr fr : Nat → Nat → Bool} {N K s : Nat} {T : Nat → Bool} {ev : Prop} {u g h : Nat → Nat} (e : ∀ i, i < N → T i = true → g i = h i) (p : Pt nr fr N K T ev s u g) : Pt nr fr N K T ev s u h := by
  obtain ⟨p1, p2, p3⟩ := p
  refine ⟨fun i hi ht => ?_, fun i j hi hj hti htj hn => ?_, fun q c hc => ?_⟩
  · rw [← e i hi ht]; exact p1 i hi ht
  · rw [← e i hi hti, ← e j hj htj]; exact p2 i j hi hj hti htj hn
  · rw [← cntT_congr N e]; exact p3 q c hc
/-- the same free colours, seen otherwise -/
theorem Pt_fr {nr fr fr' : Nat → Nat → Bool} {N K s : Nat} {T T' : Nat → Bool} {ev : Prop} {u g : Nat → Nat} (hT : ∀ i, i < N → T i = T' i) (e : ∀ i c, i < N → c < K → T i = true → fr i c = fr' i c) (p : Pt nr fr N K T ev s u g) : Pt nr fr' N K T' ev s u g := by
  obtain ⟨p1, p2, p3⟩ := p
  have hc : ∀ c M, M ≤ N → cntT T g c M = cntT T' g c M := by
    intro c M
    induction M with
    | zero => intro _; rfl
    | succ M ih => intro h; rw [cntT_s, cntT_s, ih (by omega), hT M (by omega)]
  refine ⟨fun i hi ht => ?_, fun i j hi hj hti htj hn => ?_, fun q c hcK => ?_⟩
  · have ht' : T i = true := by rw [hT i hi]; exact ht
    obtain ⟨a, b⟩ := p1 i hi ht'
    exact ⟨a, by rw [← e i _ hi a ht']; exact b⟩
  · exact p2 i j hi hj (by rw [hT i hi]; exact hti) (by rw [hT j hj]; exact htj) hn
  · rw [← hc c N (Nat.le_refl _)]; exact p3 q c hcK
/-- what is free once it has colour c -/
def frAt (nr fr fr' : Nat → Nat → Bool) (N K : Nat) (T' : Nat → Bool) (it c : Nat) : Prop := ∀ i d, i < N → d < K → T' i = true → (fr' i d = true ↔ fr i d = true ∧ (nr it i = true → ¬ d = c))
theorem Pt_step {nr fr fr' : Nat → Nat → Bool} {N K s it c : Nat} {T T' : Nat → Bool} {ev : Prop} {u g : Nat → Nat} (hsym : ∀ i j, i < N → j < N → nr i j = true → nr j i = true) (hirr : ∀ i, i < N → ¬ nr i i = true) (hit : it < N) (hT : T it = true) (hw : wo N T T' it) (hf : frAt nr fr fr' N K T' it c) (hc : c < K) (hfc : fr it c = true) (hg : g it = c) : Pt nr fr N K T ev s u g ↔ Pt nr fr' N K T' ev s (plus1 u c) g := by
  have hcnt : ∀ d, u d + cntT T g d N = plus1 u c d + cntT T' g d N := by
    intro d
    rw [cntT_wo N hw hT, hg]
    unfold plus1
    by_cases q : c = d
    · rw [if_pos ⟨hit, q⟩, if_pos q]; omega
    · rw [if_neg (fun w => q w.2), if_neg q]; omega
  constructor
  · rintro ⟨p1, p2, p3⟩
    refine ⟨fun i hi ht => ?_, fun i j hi hj hti htj hn => ?_, fun q d hd => by rw [← hcnt d]; exact p3 q d hd⟩
    · have w := (hw i hi).mp ht
      obtain ⟨a, b⟩ := p1 i hi w.1
      refine ⟨a, (hf i _ hi a ht).mpr ⟨b, fun hn e => ?_⟩⟩
      exact p2 it i hit hi hT w.1 hn (by rw [hg]; exact e.symm)
    · exact p2 i j hi hj ((hw i hi).mp hti).1 ((hw j hj).mp htj).1 hn
  · rintro ⟨p1, p2, p3⟩
    refine ⟨fun i hi ht => ?_, fun i j hi hj hti htj hn => ?_, fun q d hd => by rw [hcnt d]; exact p3 q d hd⟩
    · by_cases e : i = it
      · subst e; rw [hg]; exact ⟨hc, hfc⟩
      · have t' := (hw i hi).mpr ⟨ht, e⟩
        obtain ⟨a, b⟩ := p1 i hi t'
        exact ⟨a, ((hf i _ hi a t').mp b).1⟩
    · by_cases e : i = it
      · subst e
        by_cases e2 : j = i
        · subst e2; exact absurd hn (hirr _ hi)
        · have t' := (hw j hj).mpr ⟨htj, e2⟩
          obtain ⟨a, b⟩ := p1 j hj t'
          rw [hg]
          exact fun w => ((hf j _ hj a t').mp b).2 hn w.symm
      · have t' := (hw i hi).mpr ⟨hti, e⟩
        by_cases e2 : j = it
        · subst e2
          obtain ⟨a, b⟩ := p1 i hi t'
          rw [hg]
          exact ((hf i _ hi a t').mp b).2 (hsym _ _ hi hj hn)
        · exact p2 i j hi hj t' ((hw j hj).mpr ⟨htj, e2⟩) hn
theorem cntT_swp {T : Nat → Bool} {g : Nat → Nat} {a b c : Nat} : ∀ i, cntT T (fun u => swp a b (g u)) c i = cntT T g (swp a b c) i := by
  intro i
  induction i with
  | zero => rfl
  | succ i ih =>
    rw [cntT_s, cntT_s, ih]
    by_cases h : T i = true ∧ g i = swp a b c
    · rw [if_pos h, if_pos ⟨h.1, by rw [h.2, swp_swp]⟩]
    · rw [if_neg h, if_neg (fun q => h ⟨q.1, by rw [← q.2, swp_swp]⟩)]
/-- c like e: what goes with c goes with e -/
theorem Pt_like {nr fr frc fre : Nat → Nat → Bool} {N K s it c e : Nat} {T' : Nat → Bool} {ev : Prop} {u g : Nat → Nat} (hfc : frAt nr fr frc N K T' it c) (hfe : frAt nr fr fre N K T' it e) (hc : c < K) (he : e < K) (hu : ev → u e = u c) (hl : ∀ i, i < N → T' i = true → fr i e = fr i c) (p : Pt nr frc N K T' ev s (plus1 u c) g) : Pt nr fre N K T' ev s (plus1 u e) (fun i => swp e c (g i)) := by
  obtain ⟨p1, p2, p3⟩ := p
  refine ⟨fun i hi ht => ?_, fun i j hi hj hti htj hn => ?_, fun q d hd => ?_⟩
  · obtain ⟨a, b⟩ := p1 i hi ht
    have b' := (hfc i _ hi a ht).mp b
    refine ⟨swp_lt he hc a, (hfe i _ hi (swp_lt he hc a) ht).mpr ⟨?_, fun hn w => ?_⟩⟩
    · by_cases q1 : g i = e
      · rw [q1, swp_l, ← hl i hi ht, ← q1]; exact b'.1
      · by_cases q2 : g i = c
        · rw [q2, swp_r, hl i hi ht, ← q2]; exact b'.1
        · rw [swp_o q1 q2]; exact b'.1
    · by_cases q1 : g i = e
      · rw [q1, swp_l] at w; exact b'.2 hn (by rw [q1, w])
      · by_cases q2 : g i = c
        · exact b'.2 hn q2
        · rw [swp_o q1 q2] at w; exact q1 w
  · exact fun w => p2 i j hi hj hti htj hn (swp_inj w)
  · rw [cntT_swp]
    have h := p3 q (swp e c d) (swp_lt he hc hd)
    have hu' := hu q
    have e2 : plus1 u c (swp e c d) = plus1 u e d := by
      unfold plus1
      by_cases q1 : d = e
      · subst q1; rw [swp_l, if_pos rfl, if_pos rfl, hu']
      · by_cases q2 : d = c
        · subst q2; rw [swp_r, if_neg (fun w => q1 w), if_neg (fun w => q1 w.symm), hu']
        · rw [swp_o q1 q2, if_neg (fun w => q2 w.symm), if_neg (fun w => q1 w.symm)]
    rw [e2] at h
    exact h
/-- how many there are -/
def cP (p : Nat → Bool) : Nat → Nat
  | 0 => 0
  | i + 1 => cP p i + if p i = true then 1 else 0
theorem cP_s (p : Nat → Bool) (i : Nat) : cP p (i + 1) = cP p i + if p i = true then 1 else 0 := rfl
theorem cP_le {p q : Nat → Bool} : ∀ m, (∀ i, i < m → p i = true → q i = true) → cP p m ≤ cP q m := by
  intro m
  induction m with
  | zero => intro _; exact Nat.le_refl _
  | succ m ih =>
    intro h
    have := ih (fun i hi => h i (by omega))
    rw [cP_s, cP_s]
    by_cases q1 : p m = true
    · rw [if_pos q1, if_pos (h m (by omega) q1)]; omega
    · rw [if_neg q1]; omega
theorem cP_eq {p q : Nat → Bool} : ∀ m, (∀ i, i < m → p i = q i) → cP p m = cP q m := by
  intro m
  induction m with
  | zero => intro _; rfl
  | succ m ih => intro h; rw [cP_s, cP_s, ih (fun i hi => h i (by omega)), h m (by omega)]
theorem cP_less {p : Nat → Bool} {x : Nat} : ∀ m, cP p m ≤ cP (fun i => p i && !decide (i = x)) m + 1 := by
  intro m
  have aux : ∀ m, m ≤ x → cP p m = cP (fun i => p i && !decide (i = x)) m := fun m hm => cP_eq m (fun i hi => by
    have e : decide (i = x) = false := decide_eq_false (by omega)
    show p i = (p i && !decide (i = x))
    rw [e]; cases p i <;> rfl)
  induction m with
  | zero => exact Nat.zero_le _
  | succ m ih =>
    rw [cP_s, cP_s]
    by_cases e : m = x
    · rw [aux m (by omega)]
      by_cases q : p m = true
      · rw [if_pos q]; omega
      · rw [if_neg q]; omega
    · have e' : (p m && !decide (m = x)) = p m := by rw [decide_eq_false e]; cases p m <;> rfl
      rw [e']; omega
/-- as many holes as doves -/
theorem cP_pig {q : Nat → Bool} {h : Nat → Nat} : ∀ m M (p : Nat → Bool), (∀ c, c < M → p c = true → ∃ j, j < m ∧ q j = true ∧ h j = c) → cP p M ≤ cP q m := by
  intro m
  induction m with
  | zero =>
    intro M p hp
    have : ∀ M', M' ≤ M → cP p M' = 0 := by
      intro M'
      induction M' with
      | zero => intro _; rfl
      | succ M' ih =>
        intro hM
        rw [cP_s, ih (by omega), if_neg (fun w => by obtain ⟨j, hj, _⟩ := hp M' (by omega) w; omega)]
    rw [this M (Nat.le_refl _)]; exact Nat.zero_le _
  | succ m ih =>
    intro M p hp
    rw [cP_s]
    by_cases hq : q m = true
    · have h1 := ih M (fun i => p i && !decide (i = h m)) (fun c hc hpc => by
        have hpc' : p c = true ∧ ¬ c = h m := by
          have : (p c && !decide (c = h m)) = true := hpc
          rw [Bool.and_eq_true] at this
          refine ⟨this.1, fun e => ?_⟩
          rw [decide_eq_true e] at this
          exact absurd this.2 (by decide)
        obtain ⟨j, hj, h1, h2⟩ := hp c hc hpc'.1
        refine ⟨j, ?_, h1, h2⟩
        by_cases e : j = m
        · subst e; exact absurd h2.symm hpc'.2
        · omega)
      have h2 := cP_less (p := p) (x := h m) M
      rw [if_pos hq]; omega
    · have h1 := ih M p (fun c hc hpc => by
        obtain ⟨j, hj, h1, h2⟩ := hp c hc hpc
        refine ⟨j, ?_, h1, h2⟩
        by_cases e : j = m
        · subst e; exact absurd h1 hq
        · omega)
      rw [if_neg hq]; omega
/-- an easy item finds a colour -/
theorem Pt_easy {nr fr : Nat → Nat → Bool} {N K s it : Nat} {T T' : Nat → Bool} {ev : Prop} {u : Nat → Nat} (hev : ¬ ev) (hsym : ∀ i j, i < N → j < N → nr i j = true → nr j i = true) (hirr : ∀ i, i < N → ¬ nr i i = true) (hit : it < N) (hT : T it = true) (hw : wo N T T' it) (hl : cP (fun j => nr it j && T j) N < cP (fr it) K) : (∃ g, Pt nr fr N K T ev s u g) ↔ ∃ g, Pt nr fr N K T' ev s u g := by
  constructor
  · rintro ⟨g, p1, p2, -⟩
    exact ⟨g, fun i hi ht => p1 i hi ((hw i hi).mp ht).1, fun i j hi hj hti htj hn => p2 i j hi hj ((hw i hi).mp hti).1 ((hw j hj).mp htj).1 hn, fun q => absurd q hev⟩
  · rintro ⟨g, p1, p2, -⟩
    have : ∃ c, c < K ∧ fr it c = true ∧ ∀ j, j < N → T j = true → ¬ j = it → nr it j = true → ¬ g j = c := by
      refine Classical.byContradiction (fun q => ?_)
      have := cP_pig (q := fun j => nr it j && T j) (h := g) N K (fr it) (fun c hc hfc => ?_)
      · omega
      · refine Classical.byContradiction (fun q2 => q ⟨c, hc, hfc, fun j hj htj hji hn e => q2 ⟨j, hj, ?_, e⟩⟩)
        show (nr it j && T j) = true
        rw [hn, htj]; rfl
    obtain ⟨c, hc, hfc, hno⟩ := this
    refine ⟨setN g it c, fun i hi ht => ?_, fun i j hi hj hti htj hn => ?_, fun q => absurd q hev⟩
    · by_cases e : i = it
      · subst e; rw [setN_same]; exact ⟨hc, hfc⟩
      · rw [setN_ne e]; exact p1 i hi ((hw i hi).mpr ⟨ht, e⟩)
    · by_cases e : i = it
      · subst e
        by_cases e2 : j = i
        · subst e2; exact absurd hn (hirr _ hi)
        · rw [setN_same, setN_ne e2]
          exact fun w => hno j hj htj e2 hn w.symm
      · by_cases e2 : j = it
        · subst e2
          rw [setN_same, setN_ne e]
          exact hno i hi hti e (hsym _ _ hi hj hn)
        · rw [setN_ne e, setN_ne e2]
          exact p2 i j hi hj ((hw i hi).mpr ⟨hti, e⟩) ((hw j hj).mpr ⟨htj, e2⟩) hn
theorem cntT_le {T : Nat → Bool} {fr : Nat → Nat → Bool} {g : Nat → Nat} {c : Nat} : ∀ N, (∀ i, i < N → T i = true → g i = c → fr i c = true) → cntT T g c N ≤ cP (fun i => T i && fr i c) N := by
  intro N
  induction N with
  | zero => intro _; exact Nat.le_refl _
  | succ N ih =>
    intro h
    have := ih (fun i hi => h i (by omega))
    rw [cntT_s, cP_s]
    by_cases q : T N = true ∧ g N = c
    · rw [if_pos q, if_pos (by show (T N && fr N c) = true; rw [q.1, h N (by omega) q.1 q.2]; rfl)]; omega
    · rw [if_neg q]; omega
/-- a starved colour -/
theorem Pt_starved {nr fr : Nat → Nat → Bool} {N K s c : Nat} {T : Nat → Bool} {ev : Prop} {u g : Nat → Nat} (hev : ev) (hc : c < K) (hl : u c + cP (fun i => T i && fr i c) N < s) : ¬ Pt nr fr N K T ev s u g := by
  rintro ⟨p1, -, p3⟩
  have h1 := (p3 hev c hc).1
  have h2 := cntT_le (T := T) (fr := fr) (g := g) (c := c) N (fun i hi ht e => by rw [← e]; exact (p1 i hi ht).2)
  omega
theorem sum_cntT {T : Nat → Bool} {g u : Nat → Nat} {K : Nat} : ∀ N, (∀ i, i < N → T i = true → g i < K) → sumN K (fun c => u c + cntT T g c N) = sumN K u + cT T N := by
  intro N
  induction N with
  | zero => intro _; rfl
  | succ N ih =>
    intro h
    have ih' := ih (fun i hi => h i (by omega))
    rw [cT_s]
    by_cases q : T N = true
    · have e := sumN_inc (u := fun c => u c + cntT T g c N) (x := g N) K
      rw [if_pos (h N (by omega) q), ih'] at e
      rw [if_pos q, ← Nat.add_assoc, ← e]
      refine sumN_eq K (fun c _ => ?_)
      show u c + (cntT T g c N + if T N = true ∧ g N = c then 1 else 0) = u c + cntT T g c N + if g N = c then 1 else 0
      by_cases w : g N = c
      · rw [if_pos ⟨q, w⟩, if_pos w]; omega
      · rw [if_neg (fun z => w z.2), if_neg w]; omega
    · rw [if_neg q, Nat.add_zero (cT T N), ← ih']
      refine sumN_eq K (fun c _ => ?_)
      show u c + (cntT T g c N + if T N = true ∧ g N = c then 1 else 0) = u c + cntT T g c N
      rw [if_neg (fun z => q z.1)]; omega
/-- what is known of the uses where shares are even -/
def EV (N K s o : Nat) (T : Nat → Bool) (u : Nat → Nat) : Prop := (∀ c, c < K → u c ≤ s + 1) ∧ fullN K s u ≤ o ∧ sumN K u + cT T N = K * s + o
theorem EV_open {nr fr : Nat → Nat → Bool} {N K s o it : Nat} {T : Nat → Bool} {ev : Prop} {u g : Nat → Nat} (hev : ev) (hE : EV N K s o T u) (hit : it < N) (hT : T it = true) (p : Pt nr fr N K T ev s u g) : u (g it) < s ∨ (u (g it) = s ∧ fullN K s u < o) := by
  obtain ⟨p1, -, p3⟩ := p
  have hsum := sum_cntT (T := T) (g := g) (u := u) (K := K) N (fun i hi ht => (p1 i hi ht).1)
  refine ev_open (t := fun c => u c + cntT T g c N) (fun c hc => p3 hev c hc) (fun c _ => Nat.le_add_right _ _) (by rw [hsum]; exact hE.2.2) (p1 it hit hT).1 ?_
  have := cntT_wo (T := T) (T' := fun i => T i && !decide (i = it)) (g := g) (it := it) (c := g it) N (fun i _ => by
    show (T i && !decide (i = it)) = true ↔ _
    rw [Bool.and_eq_true]
    by_cases e : i = it
    · rw [decide_eq_true e]; exact ⟨fun w => absurd w.2 (by decide), fun w => absurd e w.2⟩
    · rw [decide_eq_false e]; exact ⟨fun w => ⟨w.1, e⟩, fun w => ⟨w.1, rfl⟩⟩) hT
  rw [if_pos ⟨hit, rfl⟩] at this
  show u (g it) < u (g it) + cntT T g (g it) N
  omega
theorem EV_step {N K s o it c : Nat} {T T' : Nat → Bool} {u : Nat → Nat} (hE : EV N K s o T u) (hit : it < N) (hT : T it = true) (hw : wo N T T' it) (hc : c < K) (ho : u c < s ∨ (u c = s ∧ fullN K s u < o)) : EV N K s o T' (plus1 u c) := by
  obtain ⟨e1, e2, e3⟩ := hE
  refine ⟨fun d hd => ?_, ?_, ?_⟩
  · unfold plus1
    by_cases q : c = d
    · subst q; rw [if_pos rfl]; rcases ho with ho | ho <;> omega
    · rw [if_neg q]; exact e1 d hd
  · have := fullN_inc (u := u) (x := c) (s := s) K
    show fullN K s (fun d => u d + if c = d then 1 else 0) ≤ o
    rw [this]
    by_cases q : c < K ∧ u c = s
    · rw [if_pos q]; rcases ho with ho | ho <;> omega
    · rw [if_neg q]; exact e2
  · have := sumN_inc (u := u) (x := c) K
    show sumN K (fun d => u d + if c = d then 1 else 0) + _ = _
    have h2 := cT_wo N hw hT
    rw [if_pos hit] at h2
    rw [this, if_pos hc]; omega
theorem Pt_0 {nr fr : Nat → Nat → Bool} {N K s : Nat} {T : Nat → Bool} {ev : Prop} {u g : Nat → Nat} (hT : ∀ i, i < N → ¬ T i = true) (hE : ev → ∀ c, c < K → s ≤ u c ∧ u c ≤ s + 1) : Pt nr fr N K T ev s u g := by
  refine ⟨fun i hi ht => absurd ht (hT i hi), fun i j hi hj hti => absurd hti (hT i hi), fun q c hc => ?_⟩
  have : ∀ M, M ≤ N → cntT T g c M = 0 := by
    intro M
    induction M with
    | zero => intro _; rfl
    | succ M ih => intro h; rw [cntT_s, ih (by omega), if_neg (fun w => hT M (by omega) w.1)]
  rw [this N (Nat.le_refl _), Nat.add_zero]
  exact hE q c hc
