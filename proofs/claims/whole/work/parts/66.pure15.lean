/-! PURE, 15: clique and apart, a: the reference -/
theorem CS_chordal_ok {F n k : Nat} {a v co re : Int32} {sq near tail head : Nat → Int32} (h : GR n k near tail head) (hF : 12 < F) : OK (m_CS_chordal F (nI n) a v near co re sq) (fun r => ∃ T, T = tkn n near n (((1 : Int32) <<< (nI n &&& 31)) - 1) 0 sq ∧ r = (if T.1 = 0 then 1 else 0, nI T.2.1, T.1, T.2.2)) := by
  unfold m_CS_chordal
  rw [gM_s (TA_run_ok h hF)]
  dsimp only
  by_cases h0 : (tkn n near n (((1 : Int32) <<< (nI n &&& 31)) - 1) 0 sq).1 = 0
  · rw [if_pos h0]
    exact OK_some ⟨_, rfl, by rw [if_pos h0]⟩
  · rw [if_neg h0]
    exact OK_some ⟨_, rfl, by rw [if_neg h0]⟩
def lexF (a b : Int32) : Prop := ∃ i, i < 32 ∧ bt a i = true ∧ bt b i = false ∧ ∀ j, j < i → bt a j = bt b j
def cnt (x : Int32) : Nat := popN x.toBitVec.toNat 12
def better (a b : Int32) : Prop := cnt b < cnt a ∨ (cnt b = cnt a ∧ lexF a b)
theorem lexF_trans {a b c : Int32} (h1 : lexF a b) (h2 : lexF b c) : lexF a c := by
  obtain ⟨i, hi, a1, a2, a3⟩ := h1
  obtain ⟨j, hj, b1, b2, b3⟩ := h2
  rcases Nat.lt_trichotomy i j with q | q | q
  · exact ⟨i, hi, a1, by rw [← b3 i q]; exact a2, fun m hm => by rw [a3 m hm, b3 m (by omega)]⟩
  · subst q; rw [a2] at b1; cases b1
  · exact ⟨j, hj, by rw [a3 j q]; exact b1, b2, fun m hm => by rw [a3 m (by omega), b3 m hm]⟩
theorem lexF_asym {a b : Int32} (h1 : lexF a b) (h2 : lexF b a) : False := by
  obtain ⟨i, hi, a1, a2, a3⟩ := lexF_trans h1 h2
  rw [a1] at a2
  cases a2
theorem lexF_or {a b : Int32} (h : a ≠ b) : lexF a b ∨ lexF b a := by
  have key : ∀ n, n ≤ 32 → (∀ j, j < n → bt a j = bt b j) ∨ lexF a b ∨ lexF b a := by
    intro n
    induction n with
    | zero => intro _; exact Or.inl (fun j hj => by omega)
    | succ n ih =>
      intro hn
      rcases ih (by omega) with q | q
      · cases ha : bt a n <;> cases hb : bt b n
        · exact Or.inl (lt_s q (by rw [ha, hb]))
        · exact Or.inr (Or.inr ⟨n, by omega, hb, ha, fun j hj => (q j hj).symm⟩)
        · exact Or.inr (Or.inl ⟨n, by omega, ha, hb, q⟩)
        · exact Or.inl (lt_s q (by rw [ha, hb]))
      · exact Or.inr q
  rcases key 32 (by omega) with q | q
  · exact absurd (b_ext q) h
  · exact q
theorem better_trans {a b c : Int32} (h1 : better a b) (h2 : better b c) : better a c := by
  rcases h1 with h1 | ⟨e1, h1⟩ <;> rcases h2 with h2 | ⟨e2, h2⟩
  · exact Or.inl (by omega)
  · exact Or.inl (by omega)
  · exact Or.inl (by omega)
  · exact Or.inr ⟨by omega, lexF_trans h1 h2⟩
theorem better_asym {a b : Int32} (h1 : better a b) (h2 : better b a) : False := by
  rcases h1 with h1 | ⟨e1, h1⟩ <;> rcases h2 with h2 | ⟨e2, h2⟩
  · omega
  · omega
  · omega
  · exact lexF_asym h1 h2
theorem b_neg (x : Int32) {i : Nat} (hi : i < 32) : bt (-x) i = (bt x i ^^ decide (∃ j, j < i ∧ bt x j = true)) := by
  unfold bt
  rw [Int32.toBitVec_neg, BitVec.getLsbD_neg]
  simp [hi]
theorem low_lex {x b : Int32} : ¬ ((x &&& (x ^^^ b)) &&& (-(x ^^^ b))) = 0 ↔ lexF x b := by
  rw [and_ne0]
  constructor
  · rintro ⟨i, hi, h1, h2⟩
    rw [b_and, Bool.and_eq_true] at h1
    rw [b_neg _ hi, h1.2] at h2
    have h3 : ¬ ∃ j, j < i ∧ bt (x ^^^ b) j = true := by
      intro q
      rw [decide_eq_true q] at h2
      cases h2
    have h4 := h1.2
    rw [b_xor, h1.1] at h4
    refine ⟨i, hi, h1.1, ?_, fun j hj => ?_⟩
    · cases hb : bt b i with
      | false => rfl
      | true => rw [hb] at h4; cases h4
    · cases hx : bt x j <;> cases hb : bt b j
      · rfl
      · exact absurd ⟨j, hj, by rw [b_xor, hx, hb]; rfl⟩ h3
      · exact absurd ⟨j, hj, by rw [b_xor, hx, hb]; rfl⟩ h3
      · rfl
  · rintro ⟨i, hi, a1, a2, a3⟩
    refine ⟨i, hi, ?_, ?_⟩
    · rw [b_and, b_xor, a1, a2]; rfl
    · rw [b_neg _ hi, b_xor, a1, a2]
      have h3 : ¬ ∃ j, j < i ∧ bt (x ^^^ b) j = true := by
        rintro ⟨j, hj, q⟩
        rw [b_xor, a3 j hj] at q
        cases hb : bt b j <;> rw [hb] at q <;> cases q
      rw [decide_eq_false h3]
      rfl
/-- x as a set: p1 not 0: each two of it are near; p1 = 0: no two of it are -/
def rowG (n : Nat) (near : Nat → Int32) (p1 x : Int32) (w : Nat) : Prop := ∀ v, v < n → v ≠ w → bt x v = true → (bt (near w) v = true ↔ ¬ p1 = 0)
def goodS (n : Nat) (near : Nat → Int32) (p1 x : Int32) : Prop := ∀ w, w < n → bt x w = true → rowG n near p1 x w
theorem row_0 {n k w : Nat} {near tail head : Nat → Int32} {x : Int32} (h : GR n k near tail head) (hw : w < n) : (near w &&& x) = 0 ↔ rowG n near 0 x w := by
  have hn := h.1
  constructor
  · intro q v hv hvw hx
    constructor
    · intro hb
      have e := (b_eq0 _).mp q v (by omega)
      rw [b_and, hb, hx] at e
      cases e
    · intro q; exact absurd rfl q
  · intro q
    rw [b_eq0]
    intro i hi
    rw [b_and]
    cases hb : bt (near w) i with
    | false => rfl
    | true =>
      obtain ⟨-, hin, hiw, -⟩ := h.2.2.1 w i (by omega) hi hb
      cases hx : bt x i with
      | false => rfl
      | true => exact absurd rfl ((q i hin hiw hx).mp hb)
theorem row_1 {n k w : Nat} {near tail head : Nat → Int32} {x p1 : Int32} (h : GR n k near tail head) (hw : w < n) (hp : ¬ p1 = 0) (hx : ∀ i, n ≤ i → i < 32 → bt x i = false) : (near w &&& (x &&& (((1 : Int32) <<< (nI w &&& 31)) ^^^ (-1)))) = (x &&& (((1 : Int32) <<< (nI w &&& 31)) ^^^ (-1))) ↔ rowG n near p1 x w := by
  have hn := h.1
  have key : ∀ u, u < 32 → (bt (x &&& (((1 : Int32) <<< (nI w &&& 31)) ^^^ (-1))) u = true ↔ bt x u = true ∧ u ≠ w) := by
    intro u hu
    rw [b_and, b_not _ hu, b_one (by omega) hu]
    by_cases e : u = w
    · simp [e]
    · simp [e]
  constructor
  · intro q v hv hvw hb
    refine ⟨fun _ => hp, fun _ => ?_⟩
    have e := (key v (by omega)).mpr ⟨hb, hvw⟩
    rw [← q, b_and, Bool.and_eq_true] at e
    exact e.1
  · intro q
    apply b_ext
    intro i hi
    rw [b_and]
    cases hb : bt (x &&& (((1 : Int32) <<< (nI w &&& 31)) ^^^ (-1))) i with
    | false => rw [Bool.and_false]
    | true =>
      obtain ⟨e1, e2⟩ := (key i hi).mp hb
      have hin : i < n := by
        by_cases q1 : i < n
        · exact q1
        · rw [hx i (by omega) hi] at e1; cases e1
      rw [(q i hin e2 e1).mpr hp]
      rfl
