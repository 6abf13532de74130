/-! PURE, 55: how often nets are split -/
noncomputable def nbV (nr : Nat → Nat → Prop) (V v : Nat) : Nat := mkM (fun i => V.testBit i && @decide (nr v i) (Classical.propDecidable _)) 12
theorem nbV_bit {nr : Nat → Nat → Prop} {V v i : Nat} (hV : V < 2 ^ 12) : (nbV nr V v).testBit i = true ↔ V.testBit i = true ∧ nr v i := by
  unfold nbV
  rw [mkM_bit, Bool.and_eq_true, Bool.and_eq_true, decide_eq_true_iff]
  constructor
  · exact fun w => ⟨w.2.1, (@decide_eq_true_iff _ (Classical.propDecidable _)).mp w.2.2⟩
  · exact fun w => ⟨bit_lt hV w.1, w.1, (@decide_eq_true_iff _ (Classical.propDecidable _)).mpr w.2⟩
theorem nbV_lt (nr : Nat → Nat → Prop) (V v : Nat) : nbV nr V v < 2 ^ 12 := mkM_lt 12
noncomputable def farV (nr : Nat → Nat → Prop) (V v : Nat) : Nat := mkM (fun i => V.testBit i && @decide (¬ i = v ∧ ¬ nr v i) (Classical.propDecidable _)) 12
theorem farV_bit {nr : Nat → Nat → Prop} {V v i : Nat} (hV : V < 2 ^ 12) : (farV nr V v).testBit i = true ↔ V.testBit i = true ∧ ¬ i = v ∧ ¬ nr v i := by
  unfold farV
  rw [mkM_bit, Bool.and_eq_true, Bool.and_eq_true, decide_eq_true_iff]
  constructor
  · exact fun w => ⟨w.2.1, (@decide_eq_true_iff _ (Classical.propDecidable _)).mp w.2.2⟩
  · exact fun w => ⟨bit_lt hV w.1, w.1, (@decide_eq_true_iff _ (Classical.propDecidable _)).mpr w.2⟩
theorem farV_lt (nr : Nat → Nat → Prop) (V v : Nat) : farV nr V v < 2 ^ 12 := mkM_lt 12
noncomputable def dgV (nr : Nat → Nat → Prop) (V v : Nat) : Nat := pcN 12 (nbV nr V v)
def simpl (nr : Nat → Nat → Prop) (N : Nat) : Prop := ∀ i j, N.testBit i = true → N.testBit j = true → ¬ i = j → nr i j
def coreV (nr : Nat → Nat → Prop) (V : Nat) : Prop := ∀ v, V.testBit v = true → ¬ simpl nr (nbV nr V v)
def PKv (nr : Nat → Nat → Prop) (V v : Nat) : Prop := V.testBit v = true ∧ (∀ u, V.testBit u = true → dgV nr V v ≤ dgV nr V u) ∧ ∀ u, V.testBit u = true → u < v → dgV nr V v < dgV nr V u
def PKa (nr : Nat → Nat → Prop) (N a : Nat) : Prop := N.testBit a = true ∧ (∃ b, N.testBit b = true ∧ ¬ b = a ∧ ¬ nr a b) ∧ ∀ x, N.testBit x = true → x < a → ∀ y, N.testBit y = true → ¬ y = x → nr x y
theorem PKv_uniq {nr : Nat → Nat → Prop} {V v v' : Nat} (h : PKv nr V v) (h' : PKv nr V v') : v = v' := by
  rcases Nat.lt_trichotomy v v' with q | q | q
  · have h1 := h'.2.2 v h.1 q
    have h2 := h.2.1 v' h'.1
    omega
  · exact q
  · have h1 := h.2.2 v' h'.1 q
    have h2 := h'.2.1 v h.1
    omega
theorem PKa_uniq {nr : Nat → Nat → Prop} {N a a' : Nat} (h : PKa nr N a) (h' : PKa nr N a') : a = a' := by
  rcases Nat.lt_trichotomy a a' with q | q | q
  · obtain ⟨b, h1, h2, h3⟩ := h.2.1
    exact absurd (h'.2.2 a h.1 q b h1 h2) h3
  · exact q
  · obtain ⟨b, h1, h2, h3⟩ := h'.2.1
    exact absurd (h.2.2 a' h'.1 q b h1 h2) h3
theorem PKa_ex {nr : Nat → Nat → Prop} {N : Nat} (h : ¬ simpl nr N) : ∃ a, PKa nr N a := by
  have : ∃ a, N.testBit a = true ∧ ∃ b, N.testBit b = true ∧ ¬ b = a ∧ ¬ nr a b := Classical.byContradiction (fun q => h (fun i j hi hj hij => Classical.byContradiction (fun z => q ⟨i, hi, j, hj, fun e => hij e.symm, z⟩)))
  obtain ⟨a0, ha0⟩ := this
  obtain ⟨a, ⟨h1, h2⟩, h3⟩ := leastN (P := fun a => N.testBit a = true ∧ ∃ b, N.testBit b = true ∧ ¬ b = a ∧ ¬ nr a b) a0 ha0
  refine ⟨a, h1, h2, fun x hx hxa y hy hyx => Classical.byContradiction (fun z => h3 x hxa ⟨hx, y, hy, hyx, z⟩)⟩
/-- at most c leaves, d deep -/
def Xc (B : Nat → (Nat → Nat → Prop) → Nat → Prop) (c : Nat) (nr : Nat → Nat → Prop) (V : Nat) : Prop := (V = 0 ∧ 1 ≤ c) ∨ (V ≠ 0 ∧ ∀ v a b, PKv nr V v → PKa nr (nbV nr V v) a → (nbV nr V v).testBit b = true → ¬ b = a → ¬ nr a b → ∃ c1 c2, c1 + c2 ≤ c ∧ B c1 (nrAdd nr a b) V ∧ B c2 (nrCon nr a b) (rmB V b))
def Bd : Nat → Nat → (Nat → Nat → Prop) → Nat → Prop
  | 0, _, _, _ => False
  | d + 1, c, nr, V => ∀ V', sbN V' V → coreV nr V' → Xc (Bd d) c nr V'
theorem Xc_mono {B B' : Nat → (Nat → Nat → Prop) → Nat → Prop} {c c' : Nat} {nr : Nat → Nat → Prop} {V : Nat} (hB : ∀ c nr V, B c nr V → B' c nr V) (hc : c ≤ c') (h : Xc B c nr V) : Xc B' c' nr V := by
  rcases h with ⟨h3, h4⟩ | ⟨h3, h4⟩
  · exact Or.inl ⟨h3, by omega⟩
  · refine Or.inr ⟨h3, fun v a b p1 p2 p3 p4 p5 => ?_⟩
    obtain ⟨c1, c2, q1, q2, q3⟩ := h4 v a b p1 p2 p3 p4 p5
    exact ⟨c1, c2, by omega, hB _ _ _ q2, hB _ _ _ q3⟩
theorem Bd_mono : ∀ d d' c c' nr V, d ≤ d' → c ≤ c' → Bd d c nr V → Bd d' c' nr V := by
  intro d
  induction d with
  | zero => intro d' c c' nr V _ _ h; exact h.elim
  | succ d ih =>
    intro d' c c' nr V hd hc h
    obtain ⟨e, rfl⟩ : ∃ e, d' = e + 1 := ⟨d' - 1, by omega⟩
    exact fun V' h1 h2 => Xc_mono (fun c nr V => ih e c c nr V (by omega) (Nat.le_refl _)) hc (h V' h1 h2)
def okN (nr : Nat → Nat → Prop) : Prop := (∀ i j, nr i j → nr j i) ∧ ∀ i, ¬ nr i i
theorem okN.sym {nr : Nat → Nat → Prop} (h : okN nr) : ∀ i j, nr i j → nr j i := h.1
theorem okN.irr {nr : Nat → Nat → Prop} (h : okN nr) : ∀ i, ¬ nr i i := h.2
theorem okN_add {nr : Nat → Nat → Prop} {a b : Nat} (h : okN nr) (hab : ¬ b = a) : okN (nrAdd nr a b) := ⟨fun i j w => by
  rcases w with w | w | w
  · exact Or.inl (h.sym _ _ w)
  · exact Or.inr (Or.inr ⟨w.2, w.1⟩)
  · exact Or.inr (Or.inl ⟨w.2, w.1⟩), fun i w => by
  rcases w with w | w | w
  · exact h.irr _ w
  · exact hab (w.2.symm.trans w.1)
  · exact hab (w.1.symm.trans w.2)⟩
theorem okN_con {nr : Nat → Nat → Prop} {a b : Nat} (h : okN nr) (hn : ¬ nr a b) : okN (nrCon nr a b) := ⟨fun i j w => by
  rcases w with w | w | w
  · exact Or.inl (h.sym _ _ w)
  · exact Or.inr (Or.inr w)
  · exact Or.inr (Or.inl w), fun i w => by
  rcases w with w | w | w
  · exact h.irr _ w
  · exact hn (h.sym _ _ (by have := w.2; rw [w.1] at this; exact this))
  · exact hn (h.sym _ _ (by have := w.2; rw [w.1] at this; exact this))⟩
noncomputable def Qf (nr : Nat → Nat → Prop) (V : Nat) : Nat := sumN 12 (fun i => if V.testBit i = true then pcN 12 (farV nr V i) else 0)
theorem sumN_leq {u t : Nat → Nat} : ∀ k, (∀ i, i < k → u i ≤ t i) → sumN k u ≤ sumN k t := by
  intro k
  induction k with
  | zero => intro _; exact Nat.le_refl _
  | succ k ih =>
    intro h
    have h1 := ih (fun i hi => h i (by omega))
    have h2 := h k (by omega)
    rw [sumN_s, sumN_s]; omega
theorem sumN_one {u t : Nat → Nat} {a : Nat} : ∀ k, (∀ i, i < k → u i ≤ t i) → a < k → u a + 1 ≤ t a → sumN k u + 1 ≤ sumN k t := by
  intro k
  induction k with
  | zero => intro _ h; omega
  | succ k ih =>
    intro h ha hl
    rw [sumN_s, sumN_s]
    by_cases e : a = k
    · subst e
      have := sumN_leq (u := u) (t := t) a (fun i hi => h i (by omega))
      omega
    · have h1 := ih (fun i hi => h i (by omega)) (by omega) hl
      have h2 := h k (by omega)
      omega
theorem sumN_two {u t : Nat → Nat} {a b : Nat} : ∀ k, (∀ i, i < k → u i ≤ t i) → a < k → b < k → ¬ a = b → u a + 1 ≤ t a → u b + 1 ≤ t b → sumN k u + 2 ≤ sumN k t := by
  intro k
  induction k with
  | zero => intro _ h; omega
  | succ k ih =>
    intro h ha hb hab hla hlb
    rw [sumN_s, sumN_s]
    have h2 := h k (by omega)
    by_cases e : a = k
    · subst e
      have := sumN_one (u := u) (t := t) (a := b) a (fun i hi => h i (by omega)) (by omega) hlb
      omega
    · by_cases e2 : b = k
      · subst e2
        have := sumN_one (u := u) (t := t) (a := a) b (fun i hi => h i (by omega)) (by omega) hla
        omega
      · have := ih (fun i hi => h i (by omega)) (by omega) (by omega) hab hla hlb
        omega
theorem pcN_less {X Y x : Nat} (h : sbN X Y) (hY : Y < 2 ^ 12) (hx : Y.testBit x = true) (hn : ¬ X.testBit x = true) : pcN 12 X + 1 ≤ pcN 12 Y := by
  have h1 := pcN_rm 12 Y x (bit_lt hY hx) hx
  have h2 := pcN_mono 12 X (rmB Y x) (fun i hi => rmB_bit.mpr ⟨h i hi, fun e => hn (by rw [← e]; exact hi)⟩)
  omega
theorem Qf_sub {nr : Nat → Nat → Prop} {V V' : Nat} (hV : V < 2 ^ 12) (h : sbN V' V) : Qf nr V' ≤ Qf nr V := by
  have hV' : V' < 2 ^ 12 := Nat.lt_of_le_of_lt (sbN_le h) hV
  refine sumN_leq 12 (fun i _ => ?_)
  by_cases q : V'.testBit i = true
  · rw [if_pos q, if_pos (h i q)]
    exact pcN_mono 12 _ _ (fun j hj => (farV_bit hV).mpr ⟨h j ((farV_bit hV').mp hj).1, ((farV_bit hV').mp hj).2⟩)
  · rw [if_neg q]; exact Nat.zero_le _
theorem Qf_add {nr : Nat → Nat → Prop} {V a b : Nat} (hok : okN nr) (hV : V < 2 ^ 12) (ha : V.testBit a = true) (hb : V.testBit b = true) (hab : ¬ b = a) (hn : ¬ nr a b) : Qf (nrAdd nr a b) V + 2 ≤ Qf nr V := by
  have hsub : ∀ i, sbN (farV (nrAdd nr a b) V i) (farV nr V i) := fun i j hj => by
    have := (farV_bit hV).mp hj
    exact (farV_bit hV).mpr ⟨this.1, this.2.1, fun w => this.2.2 (Or.inl w)⟩
  refine sumN_two (a := a) (b := b) 12 (fun i _ => ?_) (bit_lt hV ha) (bit_lt hV hb) (fun e => hab e.symm) ?_ ?_
  · by_cases q : V.testBit i = true
    · rw [if_pos q, if_pos q]; exact pcN_mono 12 _ _ (hsub i)
    · rw [if_neg q]; exact Nat.zero_le _
  · try dsimp only
    rw [if_pos ha, if_pos ha]
    exact pcN_less (x := b) (hsub a) (farV_lt _ _ _) ((farV_bit hV).mpr ⟨hb, hab, hn⟩) (fun w => ((farV_bit hV).mp w).2.2 (Or.inr (Or.inl ⟨rfl, rfl⟩)))
  · try dsimp only
    rw [if_pos hb, if_pos hb]
    exact pcN_less (x := a) (hsub b) (farV_lt _ _ _) ((farV_bit hV).mpr ⟨ha, fun e => hab e.symm, fun w => hn (hok.sym _ _ w)⟩) (fun w => ((farV_bit hV).mp w).2.2 (Or.inr (Or.inr ⟨rfl, rfl⟩)))
theorem Qf_con {nr : Nat → Nat → Prop} {V a b : Nat} (hok : okN nr) (hV : V < 2 ^ 12) (ha : V.testBit a = true) (hb : V.testBit b = true) (hab : ¬ b = a) (hn : ¬ nr a b) : Qf (nrCon nr a b) (rmB V b) + 2 ≤ Qf nr V := by
  have hr := rmB_lt (v := b) hV
  have hsub : ∀ i, sbN (farV (nrCon nr a b) (rmB V b) i) (farV nr V i) := fun i j hj => by
    have := (farV_bit hr).mp hj
    exact (farV_bit hV).mpr ⟨(rmB_bit.mp this.1).1, this.2.1, fun w => this.2.2 (Or.inl w)⟩
  refine sumN_two (a := a) (b := b) 12 (fun i _ => ?_) (bit_lt hV ha) (bit_lt hV hb) (fun e => hab e.symm) ?_ ?_
  · by_cases q : (rmB V b).testBit i = true
    · rw [if_pos q, if_pos (rmB_bit.mp q).1]; exact pcN_mono 12 _ _ (hsub i)
    · rw [if_neg q]; exact Nat.zero_le _
  · try dsimp only
    rw [if_pos ha, if_pos (rmB_bit.mpr ⟨ha, fun e => hab e.symm⟩)]
    exact pcN_less (x := b) (hsub a) (farV_lt _ _ _) ((farV_bit hV).mpr ⟨hb, hab, hn⟩) (fun w => rmB_off V b ((farV_bit hr).mp w).1)
  · try dsimp only
    rw [if_pos hb, if_neg (rmB_off V b)]
    have := pcN_less (X := 0) (Y := farV nr V b) (x := a) (sbN_0 _) (farV_lt _ _ _) ((farV_bit hV).mpr ⟨ha, fun e => hab e.symm, fun w => hn (hok.sym _ _ w)⟩) (by rw [Nat.zero_testBit]; decide)
    rw [pcN_0] at this
    exact this
theorem nb_in {nr : Nat → Nat → Prop} {V v i : Nat} (hV : V < 2 ^ 12) (h : (nbV nr V v).testBit i = true) : V.testBit i = true := ((nbV_bit hV).mp h).1
/-- two to the power of the pairs that are not near -/
theorem Bd_pow : ∀ p d nr V, okN nr → V < 2 ^ 12 → Qf nr V ≤ 2 * p + 1 → p < d → Bd d (2 ^ p) nr V := by
  intro p
  induction p with
  | zero =>
    intro d nr V hok hV hQ hd
    obtain ⟨d, rfl⟩ : ∃ e, d = e + 1 := ⟨d - 1, by omega⟩
    intro V' h1 h2
    have hV' : V' < 2 ^ 12 := Nat.lt_of_le_of_lt (sbN_le h1) hV
    by_cases q : V' = 0
    · exact Or.inl ⟨q, by decide⟩
    · refine Or.inr ⟨q, fun v a b p1 p2 p3 p4 p5 => ?_⟩
      have := Qf_add hok hV' (nb_in hV' p2.1) (nb_in hV' p3) p4 p5
      have := Qf_sub (nr := nr) hV h1
      omega
  | succ p ih =>
    intro d nr V hok hV hQ hd
    obtain ⟨d, rfl⟩ : ∃ e, d = e + 1 := ⟨d - 1, by omega⟩
    intro V' h1 h2
    have hV' : V' < 2 ^ 12 := Nat.lt_of_le_of_lt (sbN_le h1) hV
    by_cases q : V' = 0
    · exact Or.inl ⟨q, Nat.one_le_two_pow⟩
    · refine Or.inr ⟨q, fun v a b p1 p2 p3 p4 p5 => ?_⟩
      have ha := nb_in hV' p2.1
      have hb := nb_in hV' p3
      have h3 := Qf_add hok hV' ha hb p4 p5
      have h4 := Qf_con hok hV' ha hb p4 p5
      have h5 := Qf_sub (nr := nr) hV h1
      refine ⟨2 ^ p, 2 ^ p, by rw [Nat.pow_succ]; omega, ih d _ _ (okN_add hok p4) hV' (by omega) (by omega), ih d _ _ (okN_con hok p5) (rmB_lt hV') (by omega) (by omega)⟩
def tt (n : Nat) : Nat := if n ≤ 3 then 1 else if n = 4 then 2 else if n = 5 then 4 else if n = 6 then 11 else if n = 7 then 50 else if n = 8 then 256 else if n = 9 then 1093 else if n = 10 then 9299 else if n = 11 then 65536 else 300667
theorem tt_mono : ∀ a b, a ≤ b → tt a ≤ tt b := by
  intro a b h
  unfold tt
  by_cases h3 : b ≤ 3
  · rw [if_pos h3, if_pos (by omega)]; exact Nat.le_refl _
  · rw [if_neg h3]
    repeat' split
    all_goals omega
def Wr (f : Nat → Nat → Nat) (g : Nat → Nat) : Nat → Nat → Nat
  | 0 => g
  | k + 1 => fun n => Wr f g k n + f k (n - 1)
def Wt : Nat → Nat → Nat → Nat
  | 0 => fun _ n => tt (n - 1)
  | m + 1 => Wr (Wt m) (Wt m m)
theorem Wt_s (m k n : Nat) : Wt (m + 1) (k + 1) n = Wt (m + 1) k n + Wt m k (n - 1) := rfl
theorem Wt_0 (m n : Nat) : Wt (m + 1) 0 n = Wt m m n := rfl
theorem Wt_k {m n : Nat} : ∀ k k', k ≤ k' → Wt m k n ≤ Wt m k' n := by
  intro k k' h
  cases m with
  | zero => exact Nat.le_refl _
  | succ m =>
    induction k' with
    | zero => rw [show k = 0 by omega]; exact Nat.le_refl _
    | succ k' ih =>
      by_cases e : k = k' + 1
      · rw [e]; exact Nat.le_refl _
      · have := ih (by omega)
        rw [Wt_s]; omega
theorem Wt_m {n : Nat} : ∀ m m', m ≤ m' → Wt m 0 n ≤ Wt m' 0 n := by
  intro m m' h
  induction m' with
  | zero => rw [show m = 0 by omega]; exact Nat.le_refl _
  | succ m' ih =>
    by_cases e : m = m' + 1
    · rw [e]; exact Nat.le_refl _
    · have h1 := ih (by omega)
      have h2 := Wt_k (m := m') (n := n) 0 m' (Nat.zero_le _)
      rw [Wt_0]; omega
theorem Wt_tt (m k n : Nat) : tt (n - 1) ≤ Wt m k n := by
  have h1 := Wt_m (n := n) 0 m (Nat.zero_le _)
  have h2 := Wt_k (m := m) (n := n) 0 k (Nat.zero_le _)
  have h3 : Wt 0 0 n = tt (n - 1) := rfl
  omega
/-- what comes next in a phase -/
theorem Wt_next {m m' k' k n : Nat} (h1 : m' + 1 ≤ m) (h2 : k' ≤ m') : Wt m' k' n ≤ Wt m k n := by
  have h3 := Wt_k (m := m') (n := n) k' m' h2
  have h4 := Wt_m (n := n) (m' + 1) m h1
  have h5 := Wt_k (m := m) (n := n) 0 k (Nat.zero_le _)
  rw [Wt_0] at h4
  omega
noncomputable def upV (N a : Nat) : Nat := mkM (fun i => N.testBit i && decide (a < i)) 12
theorem upV_bit {N a i : Nat} (hN : N < 2 ^ 12) : (upV N a).testBit i = true ↔ N.testBit i = true ∧ a < i := by
  unfold upV
  rw [mkM_bit, Bool.and_eq_true, Bool.and_eq_true, decide_eq_true_iff, decide_eq_true_iff]
  exact ⟨fun w => w.2, fun w => ⟨bit_lt hN w.1, w⟩⟩
theorem upV_lt (N a : Nat) : upV N a < 2 ^ 12 := mkM_lt 12
/-- the far ones of a within N are all higher -/
theorem far_up {nr : Nat → Nat → Prop} {N a : Nat} (hok : okN nr) (hN : N < 2 ^ 12) (ha : PKa nr N a) : sbN (farV nr N a) (upV N a) := fun i hi => by
  have h1 := (farV_bit hN).mp hi
  refine (upV_bit hN).mpr ⟨h1.1, ?_⟩
  rcases Nat.lt_trichotomy i a with q | q | q
  · exact absurd (hok.sym _ _ (ha.2.2 i h1.1 q a ha.1 (fun e => h1.2.1 e.symm))) h1.2.2
  · exact absurd q h1.2.1
  · exact q
theorem Bd_split {D c : Nat} {nr : Nat → Nat → Prop} {W : Nat} (hok : okN nr) (hW : W < 2 ^ 12) (hB : ∀ nr' V', okN nr' → V' < 2 ^ 12 → pcN 12 V' < pcN 12 W → Bd (200 * pcN 12 V' + 200) (tt (pcN 12 V')) nr' V') (hD : 200 * pcN 12 W ≤ D + 1) (hc : tt (pcN 12 W - 1) ≤ c) (hcore : coreV nr W → Xc (Bd D) c nr W) : Bd (D + 1) c nr W := by
  intro V1 hs hc1
  by_cases e : V1 = W
  · subst e; exact hcore hc1
  · have hV1 : V1 < 2 ^ 12 := Nat.lt_of_le_of_lt (sbN_le hs) hW
    have h1 := pcN_mono 12 V1 W hs
    have h2 : pcN 12 V1 ≠ pcN 12 W := fun z => e (sb_pc hW hs z)
    have h3 := tt_mono (pcN 12 V1) (pcN 12 W - 1) (by omega)
    have h4 : Bd (D + 1) c nr V1 := Bd_mono _ (D + 1) _ c nr V1 (by omega) (by omega) (hB nr V1 hok hV1 (by omega))
    exact h4 V1 (sbN_refl _) hc1
theorem phaseX : ∀ q nr V v a, okN nr → V < 2 ^ 12 → PKv nr V v → PKa nr (nbV nr V v) a → Qf nr V ≤ q → (∀ nr' V', okN nr' → V' < 2 ^ 12 → pcN 12 V' < pcN 12 V → Bd (200 * pcN 12 V' + 200) (tt (pcN 12 V')) nr' V') → Xc (Bd (200 * pcN 12 V + q)) (Wt (pcN 12 (upV (nbV nr V v) a)) (pcN 12 (farV nr (nbV nr V v) a)) (pcN 12 V)) nr V := by
  intro q
  induction q using Nat.strongRecOn with
  | ind q ih =>
    intro nr V v a hok hV hv ha hQ hB
    have hN := nbV_lt nr V v
    refine Or.inr ⟨bit_nz hv.1, fun v2 a2 b p1 p2 p3 p4 p5 => ?_⟩
    have ev := PKv_uniq hv p1
    subst ev
    have ea := PKa_uniq ha p2
    subst ea
    have haV := nb_in hV ha.1
    have hbV := nb_in hV p3
    have hva : ¬ v = a := fun e => hok.irr v (by have := ((nbV_bit hV).mp ha.1).2; rw [← e] at this; exact this)
    have hvb : ¬ v = b := fun e => hok.irr v (by have := ((nbV_bit hV).mp p3).2; rw [← e] at this; exact this)
    have hbf : (farV nr (nbV nr V v) a).testBit b = true := (farV_bit hN).mpr ⟨p3, p4, p5⟩
    have hbu : (upV (nbV nr V v) a).testBit b = true := far_up hok hN ha b hbf
    have hab : a < b := ((upV_bit hN).mp hbu).2
    have hq1 := Qf_add hok hV haV hbV p4 p5
    have hq2 := Qf_con hok hV haV hbV p4 p5
    have hk1 := pcN_rm 12 (farV nr (nbV nr V v) a) b (bit_lt hV hbV) hbf
    have hm1 := pcN_rm 12 (upV (nbV nr V v) a) b (bit_lt hV hbV) hbu
    have hpV := pcN_rm 12 V b (bit_lt hV hbV) hbV
    have hkm := pcN_mono 12 _ _ (far_up hok hN ha)
    obtain ⟨q0, rfl⟩ : ∃ q0, q = q0 + 2 := ⟨q - 2, by omega⟩
    rw [hk1, hm1, Wt_s, ← hm1]
    refine ⟨_, _, Nat.le_refl _, ?_, ?_⟩
    · -- the net with the arc more
      have hok1 := okN_add (a := a) (b := b) hok p4
      have hN1 : nbV (nrAdd nr a b) V v = nbV nr V v := by
        apply bit_eq
        intro i
        rw [nbV_bit hV, nbV_bit hV]
        constructor
        · rintro ⟨w1, w2 | w2 | w2⟩
          · exact ⟨w1, w2⟩
          · exact absurd w2.1 hva
          · exact absurd w2.1 hvb
        · exact fun w => ⟨w.1, Or.inl w.2⟩
      have hdg : ∀ u, dgV nr V u ≤ dgV (nrAdd nr a b) V u := fun u => pcN_mono 12 _ _ (fun i hi => by
        have := (nbV_bit hV).mp hi
        exact (nbV_bit hV).mpr ⟨this.1, Or.inl this.2⟩)
      have hdv : dgV (nrAdd nr a b) V v = dgV nr V v := by unfold dgV; rw [hN1]
      have hv1 : PKv (nrAdd nr a b) V v := ⟨hv.1, fun u hu => by
        have h1 := hv.2.1 u hu
        have h2 := hdg u
        omega, fun u hu hul => by
        have h1 := hv.2.2 u hu hul
        have h2 := hdg u
        omega⟩
      have hD : 200 * pcN 12 V + (q0 + 2) = (200 * pcN 12 V + (q0 + 1)) + 1 := by omega
      rw [hD]
      refine Bd_split hok1 hV hB (by omega) (Wt_tt _ _ _) (fun hc1 => ?_)
      obtain ⟨a1, ha1⟩ := PKa_ex (hc1 v hv.1)
      have hX := ih q0 (by omega) (nrAdd nr a b) V v a1 hok1 hV hv1 ha1 (by omega) hB
      rw [hN1] at ha1 hX
      refine Xc_mono (fun c nr V h => Bd_mono _ _ c c nr V (by omega) (Nat.le_refl _) h) ?_ hX
      rcases Nat.lt_trichotomy a1 a with z | z | z
      · exfalso
        obtain ⟨y, y1, y2, y3⟩ := ha1.2.1
        exact y3 (Or.inl (ha.2.2 a1 ha1.1 z y y1 y2))
      · subst z
        refine Wt_k _ _ ?_
        have hsub : sbN (farV (nrAdd nr a1 b) (nbV nr V v) a1) (rmB (farV nr (nbV nr V v) a1) b) := fun i hi => by
          have h1 := (farV_bit hN).mp hi
          refine rmB_bit.mpr ⟨(farV_bit hN).mpr ⟨h1.1, h1.2.1, fun w => h1.2.2 (Or.inl w)⟩, fun e => h1.2.2 (Or.inr (Or.inl ⟨rfl, e⟩))⟩
        exact pcN_mono 12 _ _ hsub
      · refine Wt_next ?_ (pcN_mono 12 _ _ (far_up hok1 hN ha1))
        have hsub : sbN (upV (nbV nr V v) a1) (upV (nbV nr V v) a) := fun i hi => by
          have h1 := (upV_bit hN).mp hi
          exact (upV_bit hN).mpr ⟨h1.1, by omega⟩
        exact pcN_less (x := a1) hsub (upV_lt _ _) ((upV_bit hN).mpr ⟨ha1.1, z⟩) (fun w => by have := ((upV_bit hN).mp w).2; omega)
    · -- the net where the pair is one node
      have hok2 := okN_con (a := a) (b := b) hok p5
      have hr := rmB_lt (v := b) hV
      have hN2 : nbV (nrCon nr a b) (rmB V b) v = rmB (nbV nr V v) b := by
        apply bit_eq
        intro i
        rw [nbV_bit hr, rmB_bit, rmB_bit, nbV_bit hV]
        constructor
        · rintro ⟨⟨w1, w3⟩, w2 | w2 | w2⟩
          · exact ⟨⟨w1, w2⟩, w3⟩
          · exact absurd w2.1 hva
          · refine ⟨⟨w1, ?_⟩, w3⟩
            rw [w2.1]
            exact ((nbV_bit hV).mp ha.1).2
        · exact fun w => ⟨⟨w.1.1, w.2⟩, Or.inl w.1.2⟩
      have hN2l : rmB (nbV nr V v) b < 2 ^ 12 := rmB_lt hN
      have hdg : ∀ u, dgV nr V u ≤ dgV (nrCon nr a b) (rmB V b) u + 1 := fun u => by
        have h1 : sbN (rmB (nbV nr V u) b) (nbV (nrCon nr a b) (rmB V b) u) := fun i hi => by
          have h2 := rmB_bit.mp hi
          have h3 := (nbV_bit hV).mp h2.1
          exact (nbV_bit hr).mpr ⟨rmB_bit.mpr ⟨h3.1, h2.2⟩, Or.inl h3.2⟩
        have h2 := pcN_mono 12 _ _ h1
        unfold dgV
        by_cases z : (nbV nr V u).testBit b = true
        · have := pcN_rm 12 (nbV nr V u) b (bit_lt hV hbV) z
          omega
        · rw [rmB_no z] at h2; omega
      have hdv : dgV (nrCon nr a b) (rmB V b) v + 1 = dgV nr V v := by
        unfold dgV
        rw [hN2]
        exact (pcN_rm 12 (nbV nr V v) b (bit_lt hV hbV) p3).symm
      have hv2 : PKv (nrCon nr a b) (rmB V b) v := ⟨rmB_bit.mpr ⟨hv.1, hvb⟩, fun u hu => by
        have h1 := hv.2.1 u (rmB_bit.mp hu).1
        have h2 := hdg u
        omega, fun u hu hul => by
        have h1 := hv.2.2 u (rmB_bit.mp hu).1 hul
        have h2 := hdg u
        omega⟩
      have hB2 : ∀ nr' V', okN nr' → V' < 2 ^ 12 → pcN 12 V' < pcN 12 (rmB V b) → Bd (200 * pcN 12 V' + 200) (tt (pcN 12 V')) nr' V' := fun nr' V' h1 h2 h3 => hB nr' V' h1 h2 (by omega)
      have hpe : pcN 12 V - 1 = pcN 12 (rmB V b) := by omega
      have hD : 200 * pcN 12 V + (q0 + 2) = (200 * pcN 12 V + (q0 + 1)) + 1 := by omega
      rw [hD, hpe]
      refine Bd_split hok2 hr hB2 (by omega) (Wt_tt _ _ _) (fun hc2 => ?_)
      obtain ⟨a2, ha2⟩ := PKa_ex (hc2 v hv2.1)
      have hX := ih q0 (by omega) (nrCon nr a b) (rmB V b) v a2 hok2 hr hv2 ha2 (by omega) hB2
      rw [hN2] at ha2 hX
      refine Xc_mono (fun c nr V' h => Bd_mono _ _ c c nr V' (by omega) (Nat.le_refl _) h) ?_ hX
      rcases Nat.lt_trichotomy a2 a with z | z | z
      · exfalso
        obtain ⟨y, y1, y2, y3⟩ := ha2.2.1
        exact y3 (Or.inl (ha.2.2 a2 (rmB_bit.mp ha2.1).1 z y (rmB_bit.mp y1).1 y2))
      · subst z
        have e1 : upV (rmB (nbV nr V v) b) a2 = rmB (upV (nbV nr V v) a2) b := by
          apply bit_eq
          intro i
          rw [upV_bit hN2l, rmB_bit, rmB_bit, upV_bit hN]
          exact ⟨fun w => ⟨⟨w.1.1, w.2⟩, w.1.2⟩, fun w => ⟨⟨w.1.1, w.2⟩, w.1.2⟩⟩
        rw [e1]
        refine Wt_k _ _ (pcN_mono 12 _ _ (fun i hi => ?_))
        have h1 := (farV_bit hN2l).mp hi
        have h2 := rmB_bit.mp h1.1
        exact rmB_bit.mpr ⟨(farV_bit hN).mpr ⟨h2.1, h1.2.1, fun w => h1.2.2 (Or.inl w)⟩, h2.2⟩
      · refine Wt_next ?_ (pcN_mono 12 _ _ (far_up hok2 hN2l ha2))
        have hsub : sbN (upV (rmB (nbV nr V v) b) a2) (rmB (upV (nbV nr V v) a) b) := fun i hi => by
          have h1 := (upV_bit hN2l).mp hi
          have h2 := rmB_bit.mp h1.1
          exact rmB_bit.mpr ⟨(upV_bit hN).mpr ⟨h2.1, by omega⟩, h2.2⟩
        have h3 := rmB_bit.mp ha2.1
        exact pcN_less (x := a2) hsub (rmB_lt (upV_lt _ _)) (rmB_bit.mpr ⟨(upV_bit hN).mpr ⟨h3.1, z⟩, h3.2⟩) (fun w => by have := ((upV_bit hN2l).mp w).2; omega)
/-- the numbers -/
theorem Wt_num : ∀ n, n < 12 → ∀ d, d < n → 2 ≤ d → d + 2 ≤ n → Wt d 0 n ≤ tt n ∨ (n * (n - 1 - d)) / 2 < 40 ∧ 2 ^ ((n * (n - 1 - d)) / 2) ≤ tt n := by decide +kernel
theorem Wt_12 : ∀ d, d < 7 → Wt d 0 12 ≤ 300667 := by decide +kernel
theorem pcN_parts {nr : Nat → Nat → Prop} {V i : Nat} (hirr : ∀ i, ¬ nr i i) (hV : V < 2 ^ 12) (hi : V.testBit i = true) : pcN 12 V = 1 + dgV nr V i + pcN 12 (farV nr V i) := by
  have h1 := pcN_rm 12 V i (bit_lt hV hi) hi
  have hc : cut (rmB V i) (nbV nr V i) (farV nr V i) := fun j => by
    rw [rmB_bit, nbV_bit hV, farV_bit hV]
    refine ⟨⟨fun w => ?_, fun w => ?_⟩, fun w => w.2.2.2 w.1.2⟩
    · by_cases z : nr i j
      · exact Or.inl ⟨w.1, z⟩
      · exact Or.inr ⟨w.1, w.2, z⟩
    · rcases w with w | w
      · exact ⟨w.1, fun e => hirr i (by have := w.2; rw [e] at this; exact this)⟩
      · exact ⟨w.1, w.2.1⟩
  have h2 := pcN_cut 12 _ _ _ hc
  unfold dgV
  omega
theorem sumN_pc {V x : Nat} : ∀ k, sumN k (fun i => if V.testBit i = true then x else 0) = pcN k V * x := by
  intro k
  induction k with
  | zero => exact (Nat.zero_mul x).symm
  | succ k ih =>
    rw [sumN_s, ih]
    show _ = (pcN k V + _) * x
    by_cases h : V.testBit k = true
    · rw [if_pos h, if_pos h, Nat.add_mul, Nat.one_mul]
    · rw [if_neg h, if_neg h, Nat.add_zero, Nat.add_zero]
theorem Qf_deg {nr : Nat → Nat → Prop} {V d : Nat} (hirr : ∀ i, ¬ nr i i) (hV : V < 2 ^ 12) (hd : ∀ u, V.testBit u = true → d ≤ dgV nr V u) : Qf nr V ≤ pcN 12 V * (pcN 12 V - 1 - d) := by
  rw [← sumN_pc]
  refine sumN_leq 12 (fun i _ => ?_)
  by_cases q : V.testBit i = true
  · rw [if_pos q, if_pos q]
    have h1 := pcN_parts hirr hV q
    have h2 := hd i q
    omega
  · rw [if_neg q]; exact Nat.zero_le _
theorem PKv_ex {nr : Nat → Nat → Prop} {V : Nat} (h0 : V ≠ 0) : ∃ v, PKv nr V v := by
  obtain ⟨i, hi⟩ := nz_bit h0
  obtain ⟨d, ⟨u, hu, hd⟩, hmin⟩ := leastN (P := fun d => ∃ u, V.testBit u = true ∧ dgV nr V u = d) (dgV nr V i) ⟨i, hi, rfl⟩
  obtain ⟨v, ⟨hv, hvd⟩, hmin2⟩ := leastN (P := fun v => V.testBit v = true ∧ dgV nr V v = d) u ⟨hu, hd⟩
  have hle : ∀ w, V.testBit w = true → d ≤ dgV nr V w := fun w hw => by
    rcases Nat.lt_or_ge (dgV nr V w) d with z | z
    · exact absurd ⟨w, hw, rfl⟩ (hmin _ z)
    · exact z
  refine ⟨v, hv, fun w hw => by rw [hvd]; exact hle w hw, fun w hw hl => ?_⟩
  have h1 := hle w hw
  rw [hvd]
  rcases Nat.lt_or_ge d (dgV nr V w) with z | z
  · exact z
  · exact absurd ⟨hw, by omega⟩ (hmin2 w hl)
theorem core_deg {nr : Nat → Nat → Prop} {V v : Nat} (hok : okN nr) (hV : V < 2 ^ 12) (hc : coreV nr V) (hv : PKv nr V v) : 2 ≤ dgV nr V v ∧ dgV nr V v + 2 ≤ pcN 12 V := by
  obtain ⟨a, ha⟩ := PKa_ex (hc v hv.1)
  obtain ⟨b, h1, h2, h3⟩ := ha.2.1
  have hN := nbV_lt nr V v
  have ha1 := pcN_rm 12 (nbV nr V v) a (bit_lt hN ha.1) ha.1
  have hb1 := pcN_rm 12 (rmB (nbV nr V v) a) b (bit_lt hN h1) (rmB_bit.mpr ⟨h1, h2⟩)
  have haV := nb_in hV ha.1
  have hbV := nb_in hV h1
  have h4 := pcN_parts hok.irr hV haV
  have h5 := pcN_rm 12 (farV nr V a) b (bit_lt hV hbV) ((farV_bit hV).mpr ⟨hbV, h2, h3⟩)
  have h6 := hv.2.1 a haV
  refine ⟨?_, by omega⟩
  show 2 ≤ pcN 12 (nbV nr V v)
  omega
theorem phase_deg {nr : Nat → Nat → Prop} {V v a q : Nat} (hok : okN nr) (hV : V < 2 ^ 12) (hv : PKv nr V v) (ha : PKa nr (nbV nr V v) a) (hQ : Qf nr V ≤ q) (hB : ∀ nr' V', okN nr' → V' < 2 ^ 12 → pcN 12 V' < pcN 12 V → Bd (200 * pcN 12 V' + 200) (tt (pcN 12 V')) nr' V') : Xc (Bd (200 * pcN 12 V + q)) (Wt (dgV nr V v) 0 (pcN 12 V)) nr V := by
  have hN := nbV_lt nr V v
  refine Xc_mono (fun c nr V h => h) ?_ (phaseX q nr V v a hok hV hv ha hQ hB)
  refine Wt_next ?_ (pcN_mono 12 _ _ (far_up hok hN ha))
  exact pcN_less (x := a) (fun i hi => ((upV_bit hN).mp hi).1) hN ha.1 (fun w => by have := ((upV_bit hN).mp w).2; omega)
theorem Bd_all : ∀ n, n < 12 → ∀ nr V, okN nr → V < 2 ^ 12 → pcN 12 V = n → Bd (200 * n + 200) (tt n) nr V := by
  intro n
  induction n using Nat.strongRecOn with
  | ind n ih =>
    intro hn nr V hok hV hp
    have hB : ∀ nr' V', okN nr' → V' < 2 ^ 12 → pcN 12 V' < pcN 12 V → Bd (200 * pcN 12 V' + 200) (tt (pcN 12 V')) nr' V' := fun nr' V' h1 h2 h3 => ih _ (by omega) (by omega) nr' V' h1 h2 rfl
    have htt : 1 ≤ tt n := by
      have h1 := tt_mono 0 n (Nat.zero_le _)
      have h2 : tt 0 = 1 := rfl
      omega
    refine Bd_split (D := 200 * n + 199) hok hV hB (by omega) (tt_mono _ _ (by omega)) (fun hc => ?_)
    by_cases h0 : V = 0
    · exact Or.inl ⟨h0, htt⟩
    · obtain ⟨v, hv⟩ := PKv_ex (nr := nr) h0
      obtain ⟨a, ha⟩ := PKa_ex (hc v hv.1)
      obtain ⟨hd2, hdn⟩ := core_deg hok hV hc hv
      have hQ := Qf_deg hok.irr hV hv.2.1
      rw [hp] at hQ hdn
      rcases Wt_num n hn (dgV nr V v) (by omega) hd2 hdn with z | z
      · have hQ2 : n * (n - 1 - dgV nr V v) ≤ 11 * 11 := Nat.mul_le_mul (by omega) (by omega)
        have hX := phase_deg hok hV hv ha hQ hB
        rw [hp] at hX
        exact Xc_mono (fun c nr V h => Bd_mono _ _ c c nr V (by omega) (Nat.le_refl _) h) z hX
      · have h1 := Bd_pow ((n * (n - 1 - dgV nr V v)) / 2) (200 * n + 199 + 1) nr V hok hV (by omega) (by omega)
        exact Xc_mono (fun c nr V h => h) z.2 (h1 V (sbN_refl _) hc)
/-- a net of 12 nodes with one of six near ones or fewer -/
theorem Bd_12 {nr : Nat → Nat → Prop} {V u : Nat} (hok : okN nr) (hV : V < 2 ^ 12) (hu : V.testBit u = true) (hd : dgV nr V u ≤ 6) : Bd 2700 300667 nr V := by
  have hp := pcN_le 12 V
  have hB : ∀ nr' V', okN nr' → V' < 2 ^ 12 → pcN 12 V' < pcN 12 V → Bd (200 * pcN 12 V' + 200) (tt (pcN 12 V')) nr' V' := fun nr' V' h1 h2 h3 => Bd_all _ (by omega) nr' V' h1 h2 rfl
  have ht := tt_mono (pcN 12 V - 1) 12 (by omega)
  have ht12 : tt 12 = 300667 := rfl
  refine Bd_split (D := 2699) hok hV hB (by omega) (by omega) (fun hc => ?_)
  obtain ⟨v, hv⟩ := PKv_ex (nr := nr) (bit_nz hu)
  obtain ⟨a, ha⟩ := PKa_ex (hc v hv.1)
  have hdv := hv.2.1 u hu
  have hQ := Qf_deg hok.irr hV hv.2.1
  have hQ2 : pcN 12 V * (pcN 12 V - 1 - dgV nr V v) ≤ 12 * 11 := Nat.mul_le_mul (by omega) (by omega)
  have hX := phase_deg hok hV hv ha hQ hB
  by_cases e : pcN 12 V = 12
  · rw [e] at hX hQ2
    exact Xc_mono (fun c nr V h => Bd_mono _ _ c c nr V (by omega) (Nat.le_refl _) h) (Wt_12 _ (by omega)) hX
  · have h1 := Bd_mono _ 2700 _ 300667 nr V (by omega) (by have := tt_mono (pcN 12 V) 12 (by omega); omega) (Bd_all (pcN 12 V) (by omega) nr V hok hV rfl)
    exact h1 V (sbN_refl _) hc
