/-! PURE, 17: clique and apart, c: what grow finds -/
def GS (P : Int32 → Prop) (b r : Int32) : Prop := (r = b ∧ ∀ x, P x → cnt x ≤ cnt b) ∨ (P r ∧ cnt b < cnt r ∧ ∀ x, P x → x = r ∨ better r x)
theorem better_le {a b : Int32} (h : better a b) : cnt b ≤ cnt a := by
  rcases h with h | ⟨h, -⟩
  · omega
  · omega
theorem GS_comp {P Q R : Int32 → Prop} {b r1 r2 : Int32} (h1 : GS P b r1) (h2 : GS Q r1 r2) (hR : ∀ x, R x ↔ P x ∨ Q x) (hs : ∀ x y, P x → Q y → cnt x = cnt y → lexF x y) : GS R b r2 := by
  rcases h1 with ⟨rfl, a1⟩ | ⟨a1, a2, a3⟩ <;> rcases h2 with ⟨rfl, b1⟩ | ⟨b1, b2, b3⟩
  · refine Or.inl ⟨rfl, fun x hx => ?_⟩
    rcases (hR x).mp hx with q | q
    · exact a1 x q
    · exact b1 x q
  · refine Or.inr ⟨(hR _).mpr (Or.inr b1), b2, fun x hx => ?_⟩
    rcases (hR x).mp hx with q | q
    · have := a1 x q
      exact Or.inr (Or.inl (by omega))
    · exact b3 x q
  · refine Or.inr ⟨(hR _).mpr (Or.inl a1), a2, fun x hx => ?_⟩
    rcases (hR x).mp hx with q | q
    · exact a3 x q
    · have := b1 x q
      by_cases e : cnt x = cnt r2
      · exact Or.inr (Or.inr ⟨e, hs _ x a1 q e.symm⟩)
      · exact Or.inr (Or.inl (by omega))
  · refine Or.inr ⟨(hR _).mpr (Or.inr b1), by omega, fun x hx => ?_⟩
    rcases (hR x).mp hx with q | q
    · have e : cnt x ≤ cnt r1 := by
        rcases a3 x q with r | r
        · rw [r]; exact Nat.le_refl _
        · exact better_le r
      exact Or.inr (Or.inl (by omega))
    · exact b3 x q
theorem cnt_bc (x : Int32) : cnt x = bc x 12 := popN_bc x 12 (by omega)
theorem bc_or {x y : Int32} : ∀ n, (∀ i, i < n → bt x i = true → bt y i = false) → bc (x ||| y) n = bc x n + bc y n
  | 0, _ => rfl
  | n + 1, h => by
    rw [bc_s, bc_s, bc_s, bc_or n (fun i hi => h i (by omega)), b_or]
    cases hx : bt x n with
    | false => simp; omega
    | true => rw [h n (by omega) hx]; simp; omega
theorem cnt_or {x y : Int32} (h : ∀ i, i < 12 → bt x i = true → bt y i = false) : cnt (x ||| y) = cnt x + cnt y := by
  rw [cnt_bc, cnt_bc, cnt_bc]
  exact bc_or 12 h
theorem cnt_mono {x y : Int32} (h : ∀ i, i < 12 → bt x i = true → bt y i = true) : cnt x ≤ cnt y := by
  rw [cnt_bc, cnt_bc]
  exact bc_mono 12 h
theorem cnt_pos {x : Int32} {i : Nat} (hi : i < 12) (h : bt x i = true) : 0 < cnt x := by
  rw [cnt_bc]
  apply Nat.pos_of_ne_zero
  intro q
  have := bc_0 12 q i hi
  rw [h] at this
  cases this
theorem cnt_le (x : Int32) : cnt x ≤ 12 := popN_le _ 12
/-- s fits: of each two the lower one's row has the higher one -/
def pf (fits : Nat → Int32) (s : Int32) : Prop := ∀ u v, u < v → v < 12 → bt s u = true → bt s v = true → bt (fits u) v = true
def sub (s c : Int32) : Prop := ∀ i, i < 32 → bt s i = true → bt c i = true
def extS (fits : Nat → Int32) (ch ca x : Int32) : Prop := ∃ s, sub s ca ∧ pf fits s ∧ x = ch ||| s
/-- those with nothing more, or with one below v -/
def extD (fits : Nat → Int32) (ch ca : Int32) (v : Nat) (x : Int32) : Prop := ∃ s, sub s ca ∧ pf fits s ∧ (s = 0 ∨ ∃ w, w < v ∧ bt s w = true) ∧ x = ch ||| s
/-- those whose lowest is from v on -/
def extR (fits : Nat → Int32) (ch ca : Int32) (v : Nat) (x : Int32) : Prop := ∃ s, sub s ca ∧ pf fits s ∧ (∃ w, w < 32 ∧ bt s w = true) ∧ (∀ w, w < v → bt s w = false) ∧ x = ch ||| s
theorem low_ex {s : Int32} : ∀ v, (∃ w, w < v ∧ bt s w = true) → ∃ w, w < v ∧ bt s w = true ∧ ∀ j, j < w → bt s j = false
  | 0, ⟨w, hw, _⟩ => by omega
  | v + 1, ⟨w, hw, hb⟩ => by
    by_cases q : ∃ w, w < v ∧ bt s w = true
    · obtain ⟨w, h1, h2, h3⟩ := low_ex v q
      exact ⟨w, by omega, h2, h3⟩
    · have hn : ∀ j, j < v → bt s j = false := fun j hj => by
        cases e : bt s j with
        | false => rfl
        | true => exact absurd ⟨j, hj, e⟩ q
      have hwv : w = v := by
        by_cases e : w < v
        · exact absurd ⟨w, e, hb⟩ q
        · omega
      subst hwv
      exact ⟨w, by omega, hb, hn⟩
theorem sep_DR {fits : Nat → Int32} {ch ca : Int32} {v : Nat} (hv : v ≤ 32) (hM : M12 ca) (hd : ∀ i, i < 32 → bt ca i = true → bt ch i = false) : ∀ x y, extD fits ch ca v x → extR fits ch ca v y → cnt x = cnt y → lexF x y := by
  rintro x y ⟨s, s1, s2, s3, rfl⟩ ⟨r, r1, r2, ⟨w0, hw0, hb0⟩, r4, rfl⟩ hc
  have hdis : ∀ i, i < 12 → bt ch i = true → bt r i = false := fun i hi hb => by
    cases e : bt r i with
    | false => rfl
    | true => rw [hd i (by omega) (r1 i (by omega) e)] at hb; cases hb
  rcases s3 with rfl | hw
  · rw [i_or0, cnt_or hdis] at hc
    have h12 : w0 < 12 := by
      by_cases q : w0 < 12
      · exact q
      · have := M12_bt hM (by omega) hw0
        rw [r1 w0 hw0 hb0] at this
        cases this
    have := cnt_pos h12 hb0
    omega
  · obtain ⟨w, h1, h2, h3⟩ := low_ex v hw
    refine ⟨w, by omega, ?_, ?_, fun j hj => ?_⟩
    · rw [b_or, h2, Bool.or_true]
    · rw [b_or, hd w (by omega) (s1 w (by omega) h2), r4 w h1]; rfl
    · rw [b_or, b_or, h3 j hj, r4 j (by omega)]
