/-! listed: either no room was asked for, or the rooms are as makeRoom left them -/
theorem SU_gM' {α ρ : Type} {o : Option α} {k : α → Option ρ} {P : ρ → Prop} (h : ∀ a, o = some a → SU (k a) P) : SU (gM o k) P := fun r e => by
  obtain ⟨a, h1, h2⟩ := gM_e e
  exact h a h1 r h2
theorem SU_gC' {ρ : Type} {b : Bool} {a : Option ρ} {P : ρ → Prop} (h : b = true → SU a P) : SU (gC b a) P := fun r e => h (gC_e e).1 r (gC_e e).2
theorem LC_count_E {F L1 L2 L3 L4 L5 : Nat} {r0 vs rs v1 b1 ver : Int32} {op cl we co ga near al : Nat → Int32} {su : Nat → Int64} : SU (m_LC_count F r0 vs rs op L1 cl L2 we L3 co L4 ga L5 su v1 b1 ver near al) (fun r => (m_LC_countE F r0 vs rs op v1 b1 ver near al = some (r.1, r.2.1, r.2.2.2.2.1) ∧ r = (r.1, r.2.1, vs, rs, r.2.2.2.2.1, L1, cl, L2, we, L3, co, L4, ga, L5, su)) ∨ ∃ rest a, m_LC_makeRoom F rest vs rs L1 cl L2 we L3 co L4 ga L5 su ((1 : Int32) <<< (v1 &&& 31)) = some a ∧ r.2.2.2.2.2.2.2.1 = a.2.2.2.1) := by
  unfold m_LC_count m_LC_countE
  refine SU_gC' (fun h0 => ?_)
  refine SU_gM' (fun q_2 h1 => ?_)
  refine SU_gM' ?_
  rintro ⟨q_5, rest, op2⟩ h2
  rw [gC_t h0, gM_s h1, gM_s h2]
  dsimp only
  refine SU_ite (fun hz => SU_some (Or.inl ⟨by rw [if_pos hz], rfl⟩)) (fun hz => ?_)
  refine SU_ite (fun hy => SU_some (Or.inl ⟨by rw [if_neg hz, if_pos hy], rfl⟩)) (fun hy => ?_)
  refine SU_gM' ?_
  rintro ⟨a1, a2, a3, a4, a5, a6, a7, a8, a9, a10, a11⟩ h3
  dsimp only
  have key : ∀ o : Option (Int64 × Int32 × Int32 × Int32 × (Nat → Int32) × Nat × (Nat → Int32) × Nat × (Nat → Int32) × Nat × (Nat → Int32) × Nat × (Nat → Int32) × Nat × (Nat → Int64)), SU o (fun r => r.2.2.2.2.2.2.2.1 = a4) → SU o (fun r => ((if lg_cmp q_5 0 = 0 then some (q_5, rest, op2) else if rest = 0 then some (q_5, rest, op2) else none) = some (r.1, r.2.1, r.2.2.2.2.1) ∧ r = (r.1, r.2.1, vs, rs, r.2.2.2.2.1, L1, cl, L2, we, L3, co, L4, ga, L5, su)) ∨ ∃ rest a, m_LC_makeRoom F rest vs rs L1 cl L2 we L3 co L4 ga L5 su ((1 : Int32) <<< (v1 &&& 31)) = some a ∧ r.2.2.2.2.2.2.2.1 = a.2.2.2.1) := fun o ho r e => Or.inr ⟨rest, _, h3, ho r e⟩
  refine key _ ?_
  refine SU_gBQ (fun J => ∀ s, SU (J s) (fun r => r.2.2.2.2.2.2.2.1 = a4)) ?_ ?_
  · intro s
    refine SU_gL (fun k z ih => ?_) _ _
    obtain ⟨z1, z2, z3, z4, z5, z6, z7, z8⟩ := z
    dsimp only
    refine SU_ite (fun _ => SU_some rfl) (fun _ => ?_)
    refine SU_ite (fun _ => SU_gB (ih _)) (fun _ => ?_)
    refine SU_gM (fun q38 => ?_)
    refine SU_gB ?_
    refine SU_gBQ (fun J => ∀ a b, SU (J a b) (fun r => r.2.2.2.2.2.2.2.1 = a4)) ?_ ?_
    · intro a b
      refine SU_gM ?_
      rintro ⟨y1, y2, y3, y4⟩
      dsimp only
      exact SU_gB (SU_gB (ih _))
    · intro J hJ
      refine SU_ite (fun _ => SU_gM ?_) (fun _ => hJ _ _)
      rintro ⟨y1, y2⟩
      exact hJ _ _
  · intro J80 hJ
    refine SU_gBQ (fun J => SU J (fun r => r.2.2.2.2.2.2.2.1 = a4)) (hJ _) ?_
    intro J79 h79
    exact SU_ite (fun _ => SU_ite (fun _ => hJ _) (fun _ => h79)) (fun _ => h79)
theorem listed_E {F L1 L2 L3 L4 L5 l1 l2 l3 l4 l5 : Nat} {r0 vs rs v1 b1 ver r0' vs' rs' : Int32} {op cl we co ga near al op' cl' we' co' ga' : Nat → Int32} {su su' : Nat → Int64} {r : Int64} (h : m_CS_listed F v1 b1 ver near r0 vs rs op L1 cl L2 we L3 co L4 ga L5 su al = some (r, r0', vs', rs', op', l1, cl', l2, we', l3, co', l4, ga', l5, su')) : (m_CS_listedE F v1 b1 ver near r0 vs rs op al = some (r, r0', op') ∧ vs' = vs ∧ rs' = rs ∧ l1 = L1 ∧ cl' = cl ∧ l2 = L2 ∧ we' = we ∧ l3 = L3 ∧ co' = co ∧ l4 = L4 ∧ ga' = ga ∧ l5 = L5 ∧ su' = su) ∨ ∃ rest a, m_LC_makeRoom F rest vs rs L1 cl L2 we L3 co L4 ga L5 su ((1 : Int32) <<< (v1 &&& 31)) = some a ∧ l2 = a.2.2.2.1 := by
  unfold m_CS_listed at h
  obtain ⟨⟨q, r0'', vs'', rs'', op'', m1, cl'', m2, we'', m3, co'', m4, ga'', m5, su''⟩, h1, h2⟩ := gM_e h
  dsimp only at h2
  cases h2
  rcases LC_count_E _ h1 with ⟨q1, q2⟩ | ⟨rest, a, q1, q2⟩
  · dsimp only at q1 q2
    refine Or.inl ⟨?_, ?_⟩
    · unfold m_CS_listedE
      rw [gM_s q1]
    · simp only [Prod.mk.injEq, true_and] at q2
      exact q2
  · exact Or.inr ⟨rest, a, q1, q2⟩
theorem shl_pow {n : Nat} (hn : n ≤ 12) : (1 : Int32) <<< (nI n &&& 31) = nI (2 ^ n) := by
  have := nI_mask hn
  rcases (show n = 0 ∨ n = 1 ∨ n = 2 ∨ n = 3 ∨ n = 4 ∨ n = 5 ∨ n = 6 ∨ n = 7 ∨ n = 8 ∨ n = 9 ∨ n = 10 ∨ n = 11 ∨ n = 12 by omega) with rfl | rfl | rfl | rfl | rfl | rfl | rfl | rfl | rfl | rfl | rfl | rfl | rfl <;> decide
theorem listed_early {F n L : Nat} {r0 vs rs b1 ver r0' vs' rs' : Int32} {op cl we co ga near al op' cl' we' co' ga' : Nat → Int32} {su su' : Nat → Int64} {r : Int64} (hn : n ≤ 12) (hL : L < 2 ^ n) (h : m_CS_listed F (nI n) b1 ver near r0 vs rs op L cl L we L co L ga L su al = some (r, r0', vs', rs', op', L, cl', L, we', L, co', L, ga', L, su')) : m_CS_listedE F (nI n) b1 ver near r0 vs rs op al = some (r, r0', op') ∧ vs' = vs ∧ rs' = rs ∧ cl' = cl ∧ we' = we ∧ co' = co ∧ ga' = ga ∧ su' = su := by
  have hp := pow_le12 hn
  rcases listed_E h with ⟨q, e1, e2, -, e3, -, e4, -, e5, -, e6, -, e7⟩ | ⟨rest, a, q1, q2⟩
  · exact ⟨q, e1, e2, e3, e4, e5, e6, e7⟩
  · unfold m_LC_makeRoom at q1
    rw [shl_pow hn, if_neg (nI_ge (by omega) (by omega)), if_neg (show ¬ nI (2 ^ n) ≤ 0 from nI_ge (a := 0) (b := 2 ^ n) (by omega) (by omega)), nI_clamp (by omega)] at q1
    obtain ⟨-, q1⟩ := gC_e q1
    cases q1
    dsimp only at q2
    omega
