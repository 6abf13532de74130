/-! PURE, 13: greedy, e: the runs -/
theorem OK_gBQ {α ρ : Type} {x : α} {k : α → Option ρ} {P : ρ → Prop} (Q : α → Prop) (hx : Q x) (h : ∀ a, Q a → OK (k a) P) : OK (gB x k) P := by
  rw [gB_eq]
  exact h x hx
theorem usN_congr {nv : Int32} {t1 t2 : Nat → Int32} : ∀ n, (∀ v, v < n → t1 v = t2 v) → usN nv t1 n = usN nv t2 n
  | 0, _ => rfl
  | n + 1, h => by
    have ih := usN_congr (nv := nv) n (fun v hv => h v (by omega))
    have e := h n (by omega)
    by_cases h1 : bt nv n = true ∧ ¬ t1 n = -1
    · rw [usN_t h1.1 h1.2, usN_t h1.1 (by rw [← e]; exact h1.2), ih, e]
    · have h2 : bt nv n = false ∨ t1 n = -1 := by
        cases hb : bt nv n with
        | false => exact Or.inl rfl
        | true =>
          refine Or.inr ?_
          by_cases h3 : t1 n = -1
          · exact h3
          · exact absurd ⟨hb, h3⟩ h1
      rw [usN_f h2, usN_f (by rw [← e]; exact h2), ih]
theorem bestP_rk {P : Nat → Prop} {rk rk' : Nat → Nat} {i v : Nat} (h : bestP P rk i v) (e : ∀ u, u < i → rk u = rk' u) : bestP P rk' i v :=
  ⟨h.1, h.2.1, fun u hu hp => by rw [← e u hu, ← e v h.1]; exact h.2.2 u hu hp⟩
def gnx (n : Nat) (near : Nat → Int32) (o i : Nat) (ti : Nat → Int32) (v : Nat) : Prop :=
  (o = 0 ∧ v = i) ∨ (o = 1 ∧ bestP (fun u => ti u = -1) (rk1 near) n v) ∨ (o = 2 ∧ ∃ s, peelBy n near n s ∧ v = s (n - 1 - i)) ∨ (o = 3 ∧ bestP (fun u => ti u = -1) (rk3 n near ti) n v)
theorem gnx_uniq {n o i v w : Nat} {near ti : Nat → Int32} (hi : i < n) (h1 : gnx n near o i ti v) (h2 : gnx n near o i ti w) : v = w := by
  rcases h1 with ⟨rfl, h1⟩ | ⟨rfl, h1⟩ | ⟨rfl, s1, h1, e1⟩ | ⟨rfl, h1⟩ <;> rcases h2 with ⟨q, h2⟩ | ⟨q, h2⟩ | ⟨q, s2, h2, e2⟩ | ⟨q, h2⟩ <;> first | (exfalso; omega) | skip
  · omega
  · exact bestP_uniq h1 h2
  · rw [e1, e2]; exact peelBy_uniq n h1 h2 _ (by omega)
  · exact bestP_uniq h1 h2
def GRun (n : Nat) (near : Nat → Int32) (o : Nat) : Nat → (Nat → Int32) → Int32 → Prop
  | 0, ti, se => ti = (fun _ => -1) ∧ se = 0
  | i + 1, ti', se' => ∃ (ti : Nat → Int32) (se : Int32) (v c : Nat), GRun n near o i ti se ∧ gnx n near o i ti v ∧ v < n ∧ c ≤ 12 ∧ freeC (usN (near v) ti n) c ∧ ti' = upd ti v (nI c) ∧ se' = se ||| ((1 : Int32) <<< (nI c &&& 31))
theorem GRun_uniq {n o : Nat} {near : Nat → Int32} : ∀ (i : Nat) (t1 t2 : Nat → Int32) (s1 s2 : Int32), i ≤ n → GRun n near o i t1 s1 → GRun n near o i t2 s2 → t1 = t2 ∧ s1 = s2
  | 0, t1, t2, s1, s2, _, h1, h2 => ⟨h1.1.trans h2.1.symm, h1.2.trans h2.2.symm⟩
  | i + 1, t1, t2, s1, s2, hi, h1, h2 => by
    obtain ⟨ta, sa, v, c, a1, a2, a3, a4, a5, rfl, rfl⟩ := h1
    obtain ⟨tb, sb, w, d, b1, b2, b3, b4, b5, rfl, rfl⟩ := h2
    obtain ⟨rfl, rfl⟩ := GRun_uniq i ta tb sa sb (by omega) a1 b1
    have e := gnx_uniq (by omega) a2 b2
    subst e
    have e := freeC_uniq a5 b5
    subst e
    exact ⟨rfl, rfl⟩
theorem GRun_inv {n k o : Nat} {near tail head : Nat → Int32} (h : GR n k near tail head) : ∀ (i : Nat) (ti : Nat → Int32) (se : Int32), GRun n near o i ti se → (∀ v, v < n → colOK (ti v)) ∧ cne ti (-1) n ≤ i ∧ M12 se
  | 0, ti, se, hg => by
    obtain ⟨rfl, rfl⟩ := hg
    exact ⟨fun _ _ => Or.inl rfl, by rw [cne_0 n (fun _ _ => rfl)]; omega, M12_of (fun i _ _ => b_0 i)⟩
  | i + 1, ti', se', hg => by
    obtain ⟨ti, se, v, c, a1, a2, a3, a4, a5, rfl, rfl⟩ := hg
    obtain ⟨i1, i2, i3⟩ := GRun_inv h i ti se a1
    have hn := h.1
    have hc : c < 12 := by
      have e1 := free_small n i1 a5 a4
      have e2 : bc (near v) n < n := bc_lt (v := v) (by
        cases hb : bt (near v) v with
        | false => rfl
        | true => exact absurd rfl (h.2.2.1 v v (by omega) (by omega) hb).2.2.1) n a3
      omega
    refine ⟨fun u hu => ?_, ?_, ?_⟩
    · by_cases e : u = v
      · subst e; rw [upd_same]; exact Or.inr ⟨c, hc, rfl⟩
      · rw [upd_ne e]; exact i1 u hu
    · have := (cne_upd (f := ti) (x0 := -1) (x := nI c) (b := v) n).1
      omega
    · apply M12_of
      intro m h1 h2
      rw [b_or, M12_bt i3 h1 h2, b_one (by omega) h2]
      simp
      omega
theorem nI_sub' {w i : Nat} (h : i ≤ w) : nI w - nI i = nI (w - i) := by
  obtain ⟨d, rfl⟩ : ∃ d, w = d + i := ⟨w - i, by omega⟩
  have e : nI (d + i) = nI d + nI i := by
    induction i with
    | zero => exact (Int32.add_zero _).symm
    | succ i ih => rw [← Nat.add_assoc, ← nI_1, ih (by omega), ← nI_1, Int32.add_assoc]
  rw [e, Int32.add_sub_cancel, Nat.add_sub_cancel]
theorem Gr_next_ok {F n k o i : Nat} {a v : Int32} {t2 ti pe near tail head : Nat → Int32} {se : Int32} (h : GR n k near tail head) (ho : o < 4) (hi : i < n) (hg : GRun n near o i ti se) (ha : ∀ v, v < 12 → t2 v = ti v) (hp : o = 2 → ∃ s, peelBy n near n s ∧ ∀ j, j < n → pe j = nI (s j)) (hF : 12 < F) : OK (m_Gr_next F t2 pe (nI n) a v near (nI o) (nI i)) (fun r => ∃ b, b < n ∧ r = nI b ∧ gnx n near o i ti b) := by
  have hn := h.1
  obtain ⟨i1, i2, i3⟩ := GRun_inv h i ti se hg
  have ht : ∀ v, v < n → colOK (t2 v) := fun v hv => by rw [ha v (by omega)]; exact i1 v hv
  have hex : ∃ u, u < n ∧ t2 u = -1 := by
    obtain ⟨u, hu, e⟩ := cne_ex (f := ti) (x0 := -1) n (by omega)
    exact ⟨u, hu, by rw [ha u (by omega)]; exact e⟩
  unfold m_Gr_next
  obtain rfl | rfl | rfl | rfl : o = 0 ∨ o = 1 ∨ o = 2 ∨ o = 3 := by omega
  · rw [if_neg (by decide), if_neg (by decide), if_neg (by decide)]
    exact OK_some ⟨i, hi, rfl, Or.inl ⟨rfl, rfl⟩⟩
  · rw [if_pos (show nI 1 = 1 from rfl)]
    refine OK_gM (Gr_nextByRank_ok h ht hex hF) ?_
    rintro r ⟨b, rfl, hb⟩
    rw [if_pos rfl] at hb
    exact OK_some ⟨b, hb.1, rfl, Or.inr (Or.inl ⟨rfl, bestP_iff hb (fun u hu => by rw [ha u (by omega)])⟩)⟩
  · rw [if_neg (by decide), if_pos (show nI 2 = 2 from rfl)]
    obtain ⟨s, hs, hs2⟩ := hp rfl
    obtain ⟨w, rfl⟩ : ∃ w, n = w + 1 := ⟨n - 1, by omega⟩
    have hdw : dn (w + 1) = nI w := rfl
    rw [dn_s, hdw, nI_sub' (by omega), gC_t (inb_nI (by omega) (by omega)), nI_clamp (by omega)]
    have e : w + 1 - 1 - i = w - i := by omega
    obtain ⟨_, _, hl⟩ := hs (w - i) (by omega)
    exact OK_some ⟨s (w - i), hl.2.1, hs2 _ (by omega), Or.inr (Or.inr (Or.inl ⟨rfl, s, hs, by rw [e]⟩))⟩
  · rw [if_neg (by decide), if_neg (by decide), if_pos (show nI 3 = 3 from rfl)]
    refine OK_gM (Gr_nextByRank_ok h ht hex hF) ?_
    rintro r ⟨b, rfl, hb⟩
    rw [if_neg (by decide)] at hb
    refine OK_some ⟨b, hb.1, rfl, Or.inr (Or.inr (Or.inr ⟨rfl, bestP_rk (bestP_iff hb (fun u hu => by rw [ha u (by omega)])) (fun u hu => ?_)⟩))⟩
    unfold rk3
    rw [usN_congr n (fun v hv => ha v (by omega))]
theorem agr_upd {t2 ti : Nat → Int32} {x : Int32} {b : Nat} (ha : ∀ v, v < 12 → t2 v = ti v) : ∀ v, v < 12 → upd t2 b x v = upd ti b x v := by
  intro v hv
  by_cases e : v = b
  · subst e; rw [upd_same, upd_same]
  · rw [upd_ne e, upd_ne e]; exact ha v hv
theorem Gr_run_ok {F n k o : Nat} {a v : Int32} {tn pe near tail head : Nat → Int32} (h : GR n k near tail head) (ho : o < 4) (hF : 12 < F) : OK (m_Gr_run F tn pe (nI n) a v near (nI o)) (fun r => ∃ ti se, GRun n near o n ti se ∧ r.1 = bitc se ∧ ∀ v, v < 12 → r.2.1 v = ti v) := by
  have hn := h.1
  unfold m_Gr_run
  refine OK_gBQ (fun J => ∀ pe2, (o = 2 → ∃ s, peelBy n near n s ∧ ∀ j, j < n → pe2 j = nI (s j)) → OK (J pe2) (fun r => ∃ ti se, GRun n near o n ti se ∧ r.1 = bitc se ∧ ∀ v, v < 12 → r.2.1 v = ti v)) ?_ ?_
  · intro pe2 hp
    dsimp only
    refine OK_for n (fun i z => ∃ (t2 ti : Nat → Int32) (se : Int32), z = (se, nI i, t2) ∧ GRun n near o i ti se ∧ ∀ v, v < 12 → t2 v = ti v) ?_ ?_ F 0 _ (by omega) ⟨_, _, 0, rfl, ⟨rfl, rfl⟩, fun v hv => if_pos hv⟩ (by omega)
    · rintro k1 z ⟨t2, ti, se, rfl, hg, ha⟩
      dsimp only
      rw [if_pos (nI_le (Nat.le_refl _) (by omega))]
      exact OK_some ⟨ti, se, hg, rfl, ha⟩
    · rintro k1 i z hi ⟨t2, ti, se, rfl, hg, ha⟩ hk1
      dsimp only
      rw [if_neg (nI_ge hi (by omega))]
      refine OK_gM (Gr_next_ok h ho hi hg ha hp hF) ?_
      rintro r ⟨b, hb, rfl, hx⟩
      obtain ⟨i1, i2, i3⟩ := GRun_inv h i ti se hg
      rw [gM_s (Gr_coloursNear_ok hn hb hF), usN_congr n (fun v hv => ha v (by omega))]
      obtain ⟨c, hc, hf, e⟩ := lowestOf_free (F := F) (usN_M (nv := near b) n i1)
      rw [gM_s e, gC_t (inb_nI (by omega) (by omega)), gC_t (inb_nI (by omega) (by omega)), gB_eq, gB_eq, nI_1, nI_clamp (by omega), upd_same]
      exact hk1 _ ⟨_, _, _, rfl, ⟨ti, se, b, c, hg, hx, hb, hc, hf, rfl, rfl⟩, agr_upd ha⟩
  · intro J hJ
    by_cases h2 : o = 2
    · subst h2
      rw [if_pos (show nI 2 = 2 from rfl)]
      refine OK_gM (Gr_peel_ok h hF) ?_
      intro r hr
      exact hJ r (fun _ => hr)
    · rw [if_neg (show ¬ nI o = 2 from fun q => h2 (nI_inj (by omega) (by omega) (show nI o = nI 2 from q)))]
      exact hJ pe (fun q => absurd q h2)
