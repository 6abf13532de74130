/-! what ties the class's state to the reference's, call after call -/
def seen (V : Nat) (x : Int32) : Prop := x = -1 ∨ ∃ w, w ≤ V ∧ x = nI w
theorem nI_m1 {k : Nat} (h : k < 2 ^ 31) : ¬ nI k = -1 := fun e => nI_pos h (by rw [e]; decide)
theorem seen_ne {V : Nat} {x : Int32} (h : seen V x) (hV : V < 2 ^ 20) : ¬ x = nI (V + 1) := by
  rcases h with rfl | ⟨w, hw, rfl⟩
  · exact fun e => nI_m1 (k := V + 1) (by omega) e.symm
  · intro e
    have := nI_inj (by omega) (by omega) e
    omega
theorem seen_up {V : Nat} {x : Int32} (h : seen V x) : seen (V + 1) x := by
  rcases h with rfl | ⟨w, hw, rfl⟩
  · exact Or.inl rfl
  · exact Or.inr ⟨w, by omega, rfl⟩
theorem seen_self (V : Nat) : seen V (nI V) := Or.inr ⟨V, Nat.le_refl _, rfl⟩
def SU {ρ : Type} (o : Option ρ) (P : ρ → Prop) : Prop := ∀ r, o = some r → P r
theorem SU_some {ρ : Type} {r : ρ} {P : ρ → Prop} (h : P r) : SU (some r) P := fun r' e => by cases e; exact h
theorem SU_gM {α ρ : Type} {o : Option α} {k : α → Option ρ} {P : ρ → Prop} (h : ∀ a, SU (k a) P) : SU (gM o k) P := fun r e => by
  obtain ⟨a, -, h2⟩ := gM_e e
  exact h a r h2
theorem SU_gC {ρ : Type} {b : Bool} {a : Option ρ} {P : ρ → Prop} (h : SU a P) : SU (gC b a) P := fun r e => h r (gC_e e).2
theorem SU_gB {α ρ : Type} {e : α} {k : α → Option ρ} {P : ρ → Prop} (h : SU (k e) P) : SU (gB e k) P := h
theorem SU_gBQ {α ρ : Type} {e : α} {k : α → Option ρ} {P : ρ → Prop} (Q : α → Prop) (h1 : Q e) (h2 : ∀ J, Q J → SU (k J) P) : SU (gB e k) P := h2 e h1
theorem SU_ite {ρ : Type} {c : Prop} [Decidable c] {a b : Option ρ} {P : ρ → Prop} (h1 : c → SU a P) (h2 : ¬ c → SU b P) : SU (if c then a else b) P := by
  by_cases q : c
  · rw [if_pos q]; exact h1 q
  · rw [if_neg q]; exact h2 q
theorem SU_gL {σ ρ : Type} {body : (σ → Option ρ) → σ → Option ρ} {P : ρ → Prop} (step : ∀ (k : σ → Option ρ) (z : σ), (∀ z', SU (k z') P) → SU (body k z) P) : ∀ (F : Nat) (z : σ), SU (gL body F z) P := by
  intro F
  induction F with
  | zero => intro z r e; cases e
  | succ F ih => intro z; exact step _ z ih
theorem LC_count_vs {F L1 L2 L3 L4 L5 : Nat} {r0 vs rs v1 b1 ver : Int32} {op cl we co ga near al : Nat → Int32} {su : Nat → Int64} : SU (m_LC_count F r0 vs rs op L1 cl L2 we L3 co L4 ga L5 su v1 b1 ver near al) (fun r => r.2.2.1 = vs ∨ r.2.2.1 = ver) := by
  unfold m_LC_count
  refine SU_gC ?_
  refine SU_gM (fun q_2 => ?_)
  refine SU_gM ?_
  rintro ⟨q_5, rest, op2⟩
  dsimp only
  refine SU_ite (fun _ => SU_some (Or.inl rfl)) (fun _ => ?_)
  refine SU_ite (fun _ => SU_some (Or.inl rfl)) (fun _ => ?_)
  refine SU_gM ?_
  rintro ⟨a1, a2, a3, a4, a5, a6, a7, a8, a9, a10, a11⟩
  dsimp only
  refine SU_gBQ (fun J => ∀ s, SU (J s) (fun r => r.2.2.1 = vs ∨ r.2.2.1 = ver)) ?_ ?_
  · intro s
    refine SU_gL (fun k z ih => ?_) _ _
    obtain ⟨z1, z2, z3, z4, z5, z6, z7, z8⟩ := z
    dsimp only
    refine SU_ite (fun _ => SU_some (Or.inr rfl)) (fun _ => ?_)
    refine SU_ite (fun _ => SU_gB (ih _)) (fun _ => ?_)
    refine SU_gM (fun q38 => ?_)
    refine SU_gB ?_
    refine SU_gBQ (fun J => ∀ a b, SU (J a b) (fun r => r.2.2.1 = vs ∨ r.2.2.1 = ver)) ?_ ?_
    · intro a b
      refine SU_gM ?_
      rintro ⟨y1, y2, y3, y4⟩
      dsimp only
      exact SU_gB (SU_gB (ih _))
    · intro J hJ
      refine SU_ite (fun _ => SU_gM ?_) (fun _ => hJ _ _)
      rintro ⟨y1, y2⟩
      exact hJ _ _
  · intro J80 hJ
    refine SU_gBQ (fun J => SU J (fun r => r.2.2.1 = vs ∨ r.2.2.1 = ver)) (hJ _) ?_
    intro J79 h79
    exact SU_ite (fun _ => SU_ite (fun _ => hJ _) (fun _ => h79)) (fun _ => h79)
theorem CS_listed_vs {F L1 L2 L3 L4 L5 : Nat} {r0 vs rs v1 b1 ver : Int32} {op cl we co ga near al : Nat → Int32} {su : Nat → Int64} : SU (m_CS_listed F v1 b1 ver near r0 vs rs op L1 cl L2 we L3 co L4 ga L5 su al) (fun r => r.2.2.1 = vs ∨ r.2.2.1 = ver) := fun r e => by
  unfold m_CS_listed at e
  obtain ⟨⟨q, r0', vs', rs', op', l1, cl', l2, we', l3, co', l4, ga', l5, su'⟩, h1, h2⟩ := gM_e e
  dsimp only at h2
  cases h2
  exact LC_count_vs _ h1
theorem CS_listed_ok2 {F n ka L V : Nat} {r0 vs rs b1 : Int32} {op cl we co ga near tail head al : Nat → Int32} {su : Nat → Int64} (h : GR n ka near tail head) (hal : hi12 al n) (hL2 : L < 2 ^ 31) (hV : V < 2 ^ 20) (hI : LCI near n L (nI V) vs rs we) (hs : seen V vs) (hF : 5000 < F) : OK (m_CS_listed F (nI n) b1 (nI V) near r0 vs rs op L cl L we L co L ga L su al) (fun r => r.1 = LI (wy (al0 al) (nr0 near) n 12 (2 ^ n - 1)) ∧ ∃ L' : Nat, (L' = L ∨ (L < 2 ^ n ∧ L' = 2 ^ n)) ∧ ∃ (r0' vs' rs' : Int32) (op' cl' we' co' ga' : Nat → Int32) (su' : Nat → Int64), r.2 = (r0', vs', rs', op', L', cl', L', we', L', co', L', ga', L', su') ∧ LCI near n L' (nI V) vs' rs' we' ∧ seen V vs') := by
  obtain ⟨r, e, h1, L', h2, r0', vs', rs', op', cl', we', co', ga', su', h3, h4⟩ := CS_listed_ok (r0 := r0) (b1 := b1) (op := op) (cl := cl) (co := co) (ga := ga) (su := su) h hal hL2 (nI_m1 (k := V) (by omega)) hI hF
  refine ⟨r, e, h1, L', h2, r0', vs', rs', op', cl', we', co', ga', su', h3, h4, ?_⟩
  have q := CS_listed_vs _ e
  dsimp only at q
  rw [h3] at q
  rcases q with q | q
  · have q : vs' = vs := q
    rw [q]; exact hs
  · have q : vs' = nI V := q
    rw [q]; exact seen_self V
