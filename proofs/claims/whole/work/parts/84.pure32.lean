/-! PURE, 32: the painter's first painting -/
theorem cpyB_n {n a b : Nat} (h1 : n ≤ a) (h2 : n ≤ b) (h3 : n < 2 ^ 31) : cpyB (0 : Int32) (0 : Int32) (nI n) a b = true := by
  unfold cpyB
  have e0 : (0 : Int32).toNatClampNeg = 0 := by decide
  rw [decide_eq_true (show ¬ (0 : Int32) < 0 by decide), decide_eq_true (show ¬ nI n < 0 from nI_nlt (a := n) (b := 0) (by omega) h3), nI_clamp h3, e0, Nat.zero_add, decide_eq_true h1, decide_eq_true h2]
  rfl
theorem Pt_at {near row : Nat → Int32} {N K s o it : Nat} {T O : Int32} {ev : Prop} {u g : Nat → Nat} (hK : K ≤ 12) (hsym : ∀ i j, i < N → j < N → bt (near i) j = true → bt (near j) i = true) (hirr : ∀ i, i < N → ¬ bt (near i) i = true) (hit : it < N) (hT : bt T it = true) (hw : wo N (btT T) (btT O) it) (hE : ev → EV N K s o (btT T) u) (hg : Pt (bt2 near) (bt2 row) N K (btT T) ev s u g) : bt (row it) (g it) = true ∧ opn ev K s o u (g it) ∧ QC near row N K s ev O u it (g it) := by
  obtain ⟨h1, h2⟩ := hg.1 it hit hT
  exact ⟨h2, ⟨h1, fun q => EV_open q (hE q) hit hT hg⟩, g, (Pt_step hsym hirr hit hT hw (frAt_sp hK h1) h1 h2 rfl).mp hg⟩
theorem Pai_settle_ok {F N K s o it : Nat} {e0 sh bi bn T O : Int32} {near : Nat → Int32} {uses : Nat → Int32} {free : Nat → Nat → Int32} {u : Nat → Nat} (hN : N ≤ 16) (hsym : ∀ i j, i < N → j < N → bt (near i) j = true → bt (near j) i = true) (hirr : ∀ i, i < N → ¬ bt (near i) i = true) (hF : 100 < F) (hit : it < N) (hitT : bt T it = true) (hO : T &&& (((1 : Int32) <<< (nI it &&& 31)) ^^^ (-1)) = O) (hT : inN N T) (hfr : ∀ i, i < N → bt T i = true → ∀ c, 12 ≤ c → c < 32 → bt (free 0 i) c = false) (hP : PaiOK N K s o e0 sh bi bn T uses u) (hex : ∃ g, Pt (bt2 near) (bt2 (free 0)) N K (btT T) (¬ e0 = 0) s u g) : OK (m_Pai_settle F (nI N) e0 (nI K) sh bi bn near uses free (nI it) O) (fun r => ∃ c, c < K ∧ r.1 = nI c ∧ bt (free 0 it) c = true ∧ opn (¬ e0 = 0) K s o u c ∧ QC near (free 0) N K s (¬ e0 = 0) O u it c ∧ (∀ e, e < c → bt (free 0 it) e = true → opn (¬ e0 = 0) K s o u e → ¬ QC near (free 0) N K s (¬ e0 = 0) O u it e) ∧ r.2.1 = useB sh bn (uses c) ∧ r.2.2.1 = upd uses c (uses c + 1) ∧ ∀ i, i < N → bt O i = true → r.2.2.2 0 i = spV near (free 0) it c i) := by
  obtain ⟨hK, hK0, hPe⟩ := id hP
  have hw : wo N (btT T) (btT O) it := by rw [← hO]; exact wo_rm hN hit
  have hOin : inN N O := by rw [← hO]; exact inN_rm hT (by omega)
  have hOT : ∀ i, i < 32 → bt O i = true → bt T i = true := fun i hi hb => by rw [← hO] at hb; exact ((b_rm_iff T (by omega) hi).mp hb).1
  have hcO := cT_wo N hw hitT
  rw [if_pos hit] at hcO
  have hcn : cT (btT T) N ≤ 16 := by
    have : ∀ M, cT (btT T) M ≤ M := by
      intro M
      induction M with
      | zero => exact Nat.le_refl _
      | succ M ih =>
        rw [cT_s]
        by_cases h : btT T M = true
        · rw [if_pos h]; omega
        · rw [if_neg h]; omega
    have := this N
    omega
  unfold m_Pai_settle
  have e00 : (0 : Int32).toNatClampNeg = 0 := by decide
  have e01 : (1 : Int32).toNatClampNeg = 1 := by decide
  rw [gC_t (show inb 0 18 = true from inb_nI (i := 0) (by omega) (by omega)), gC_t (inb_nI (by omega) (by omega)), e00, e01, nI_clamp (by omega)]
  refine OK_gM (PaiOK_open hP hF) ?_
  intro op hop
  try dsimp only
  rw [gB_eq]
  have hbit : ∀ c, c < K → (bt ((free 0 it) &&& op) c = true ↔ bt (free 0 it) c = true ∧ opn (¬ e0 = 0) K s o u c) := by
    intro c hc
    rw [b_and, Bool.and_eq_true, hop c (by omega)]
  generalize hCH : (free 0 it) &&& op = CH at hbit ⊢
  refine OK_for K (fun c z => ∃ fr' : Nat → Nat → Int32, z = (nI c, bn, uses, fr') ∧ fr' 0 = free 0 ∧ ∀ e, e < c → bt CH e = true → ¬ QC near (free 0) N K s (¬ e0 = 0) O u it e) ?_ ?_ F 0 _ (by omega) ⟨free, rfl, rfl, fun e he => by omega⟩ (by omega)
  · rintro k1 z ⟨fr', rfl, h1, h2⟩
    exfalso
    obtain ⟨g, hg⟩ := hex
    obtain ⟨a1, a2, a3⟩ := Pt_at hK hsym hirr hit hitT hw (fun q => (hPe q).2.2.2.2.2.2) hg
    exact h2 _ a2.1 ((hbit _ a2.1).mpr ⟨a1, a2⟩) a3
  · rintro k1 c z hc ⟨fr', rfl, h1, h2⟩ hk1
    try dsimp only
    rw [if_neg (nI_ge hc (by omega))]
    generalize hPP : (fun r : Int32 × Int32 × (Nat → Int32) × (Nat → Nat → Int32) => ∃ c, c < K ∧ r.1 = nI c ∧ bt (free 0 it) c = true ∧ opn (¬ e0 = 0) K s o u c ∧ QC near (free 0) N K s (¬ e0 = 0) O u it c ∧ (∀ e, e < c → bt (free 0 it) e = true → opn (¬ e0 = 0) K s o u e → ¬ QC near (free 0) N K s (¬ e0 = 0) O u it e) ∧ r.2.1 = useB sh bn (uses c) ∧ r.2.2.1 = upd uses c (uses c + 1) ∧ ∀ i, i < N → bt O i = true → r.2.2.2 0 i = spV near (free 0) it c i) = PP at hk1 ⊢
    have skip : ∀ fr2 : Nat → Nat → Int32, fr2 0 = free 0 → (bt CH c = true → ¬ QC near (free 0) N K s (¬ e0 = 0) O u it c) → OK (k1 (nI (c + 1), bn, uses, fr2)) PP := by
      intro fr2 g1 g2
      refine hk1 _ ⟨fr2, rfl, g1, fun e he hb => ?_⟩
      by_cases q : e = c
      · subst q; exact g2 hb
      · exact h2 e (by omega) hb
    by_cases hb : bt CH c = true
    · rw [if_neg ((b_ne_t (by omega)).mpr hb)]
      refine OK_gM (Pai_like_ok (dep := 0) hN (by omega) (by omega) hF) ?_
      rintro q (rfl | ⟨rfl, e, he, hbe, hue, hal⟩)
      · rw [if_pos rfl]
        refine OK_gM (P' := fun a => a = (useB sh bn (uses c), upd uses c (uses c + 1))) ⟨_, Pai_use_eq (by omega), rfl⟩ ?_
        rintro _ rfl
        try dsimp only
        refine OK_gM (Pai_spread_ok (dep := 0) hN hit (by omega) (by omega) hF) ?_
        rintro ⟨q, fr2⟩ ⟨hs1, hs2⟩
        try dsimp only at hs1 hs2 ⊢
        have hs1' : fr2 0 = free 0 := by rw [hs1 0 (by omega)]; exact h1
        rw [h1] at hs2
        have hco := (hbit c hc).mp hb
        refine OK_gBQ (fun J => ∀ (fr3 : Nat → Nat → Int32), fr3 0 = free 0 → ¬ QC near (free 0) N K s (¬ e0 = 0) O u it c → OK (J (useB sh bn (uses c)) (upd uses c (uses c + 1)) fr3) PP) ?_ ?_
        · intro fr3 g1 g2
          try dsimp only
          refine OK_gM (P' := fun a => a = (bn, uses)) ⟨_, Pai_unuse_eq (by omega), rfl⟩ ?_
          rintro _ rfl
          try dsimp only
          rw [gB_eq, nI_1]
          exact skip fr3 g1 (fun _ => g2)
        · intro J' hJ'
          try dsimp only
          rcases hs2 with ⟨rfl, hs2⟩ | ⟨rfl, i, hi, hbi, hs2⟩
          · rw [if_neg (show ¬ (1 : Int32) = 0 by decide)]
            have hPO := PaiOK_step hN hP hit hitT hco.2
            rw [hO] at hPO
            refine OK_gM (Pai_paintable_ok hN hsym hirr hF 18 1 O _ (plus1 u c) _ fr2 (by omega) (by omega) hOin (fun i hi hbi c' hc1 hc2 => ?_) hPO) ?_
            · rw [hs2 i hi hbi]
              exact spV_hi (by omega) hc2 (hfr i hi (hOT i (by omega) hbi) c' hc1 hc2)
            · rintro ⟨q, bn4, us4, fr4⟩ ⟨rfl, rfl, g3, g4⟩
              try dsimp only at g3 g4 ⊢
              rw [QC_row hs2] at g4
              rcases g4 with ⟨rfl, g4⟩ | ⟨rfl, g4⟩
              · rw [if_neg (show ¬ (1 : Int32) = 0 by decide), gC_t (show inb 1 18 = true from inb_nI (i := 1) (by omega) (by omega)), gC_t (show inb 0 18 = true from inb_nI (i := 0) (by omega) (by omega)), gC_t (cpyB_n hN hN (by omega)), nI_clamp (by omega)]
                rw [← hPP]
                refine OK_some ⟨c, hc, rfl, hco.1, hco.2, g4, fun e he b1 b2 => h2 e he ((hbit e (by omega)).mpr ⟨b1, b2⟩), rfl, rfl, fun i hi hbi => ?_⟩
                show gF fr4 0 (va_cpy (fr4 1) (fr4 0) 0 0 N) 0 i = _
                unfold gF
                rw [if_pos rfl, sb_cpy0 hi, g3 1 (Nat.le_refl _)]
                exact hs2 i hi hbi
              · rw [if_pos rfl]
                exact hJ' fr4 (by rw [g3 0 (by omega)]; exact hs1') g4
          · rw [if_pos rfl]
            exact hJ' fr2 hs1' (QC_0 hi hbi hs2)
      · rw [if_neg (show ¬ (1 : Int32) = 0 by decide), gB_eq, nI_1]
        refine skip fr' h1 (fun _ w => h2 e he hbe (QC_like hK hc (by omega) (fun q => ?_) (fun i hi hbi => ?_) w))
        · have := hue q
          obtain ⟨-, -, -, -, -, hu, hE⟩ := hPe q
          rw [hu e (by omega), hu c hc] at this
          have l1 := hE.1 e (by omega)
          have l2 := hE.1 c hc
          have l3 := (hPe q).2.1
          exact nI_inj (by omega) (by omega) this
        · have := hal i hi hbi
          rw [h1] at this
          exact this
    · rw [if_pos ((b_test CH (by omega)).mpr (bt_f hb)), gB_eq, nI_1]
      exact skip fr' h1 (fun w => absurd w hb)
theorem Pai_first_ok {F N K s o : Nat} {e0 sh bi bn : Int32} {near : Nat → Int32} {paint uses : Nat → Int32} {free : Nat → Nat → Int32} {u : Nat → Nat} (hN : N ≤ 16) (hsym : ∀ i j, i < N → j < N → bt (near i) j = true → bt (near j) i = true) (hirr : ∀ i, i < N → ¬ bt (near i) i = true) (hF : 100 < F) (hfr : ∀ i, i < N → ∀ c, 12 ≤ c → c < 32 → bt (free 0 i) c = false) (hP : PaiOK N K s o e0 sh bi bn (((1 : Int32) <<< (nI N &&& 31)) - 1) uses u) : OK (m_Pai_paintFirst F (nI N) e0 (nI K) sh bi bn paint near uses free) (fun r => (r.1 = 1 ∧ ∃ f : Nat → Nat, (∀ i, i < N → r.2.2.1 i = nI (f i)) ∧ Fst N (Pt (bt2 near) (bt2 (free 0)) N K (btT (((1 : Int32) <<< (nI N &&& 31)) - 1)) (¬ e0 = 0) s u) f) ∨ (r.1 = 0 ∧ ∀ g, ¬ Pt (bt2 near) (bt2 (free 0)) N K (btT (((1 : Int32) <<< (nI N &&& 31)) - 1)) (¬ e0 = 0) s u g)) := by
  have hK := hP.1
  have hfull : ∀ i, i < 32 → (bt (((1 : Int32) <<< (nI N &&& 31)) - 1) i = true ↔ i < N) := fun i hi => by rw [b_full N (by omega) i hi, decide_eq_true_iff]
  unfold m_Pai_paintFirst
  rw [gB_eq]
  generalize hM : ((1 : Int32) <<< (nI N &&& 31)) - 1 = M at hP hfull ⊢
  have hcn : cT (btT M) N ≤ 16 := by
    have : ∀ Q, cT (btT M) Q ≤ Q := by
      intro Q
      induction Q with
      | zero => exact Nat.le_refl _
      | succ Q ih =>
        rw [cT_s]
        by_cases h : btT M Q = true
        · rw [if_pos h]; omega
        · rw [if_neg h]; omega
    have := this N
    omega
  refine OK_gM (Pai_paintable_ok hN hsym hirr hF 18 0 M bn u uses free (by omega) (by omega) (fun i hi hb => (hfull i hi).mp hb) (fun i hi _ => hfr i hi) hP) ?_
  rintro ⟨q, bn1, us1, fr1⟩ ⟨rfl, rfl, g3, g4⟩
  try dsimp only at g3 g4 ⊢
  have g30 := g3 0 (Nat.le_refl _)
  rcases g4 with ⟨rfl, g4⟩ | ⟨rfl, g4⟩
  · rw [if_neg (show ¬ (1 : Int32) = 0 by decide)]
    generalize hPV : Pt (bt2 near) (bt2 (free 0)) N K (btT M) (¬ e0 = 0) s u = PV
    refine OK_for N (fun it z => ∃ (x bn' : Int32) (pt us : Nat → Int32) (fr : Nat → Nat → Int32) (f u' : Nat → Nat), z = (x, nI it, bn', pt, us, fr) ∧ (∀ i, i < 32 → (bt x i = true ↔ it ≤ i ∧ i < N)) ∧ (∀ i, i < it → pt i = nI (f i)) ∧ PaiOK N K s o e0 sh bi bn' x us u' ∧ (∀ i, i < N → bt x i = true → ∀ c, 12 ≤ c → c < 32 → bt (fr 0 i) c = false) ∧ (∃ g, Pt (bt2 near) (bt2 (fr 0)) N K (btT x) (¬ e0 = 0) s u' g) ∧ (∀ g, eqB f g it → (Pt (bt2 near) (bt2 (fr 0)) N K (btT x) (¬ e0 = 0) s u' g ↔ PV g)) ∧ ∀ h, PV h → eqB f h it ∨ ∃ j, j < it ∧ eqB f h j ∧ f j < h j) ?_ ?_ F 0 _ (by omega) ⟨M, _, paint, _, fr1, fun _ => 0, u, rfl, fun i hi => by rw [hfull i hi]; omega, fun i hi => by omega, hP, fun i hi _ => by rw [g30]; exact hfr i hi, by rw [g30]; exact g4, fun g _ => by rw [g30, hPV], fun h _ => Or.inl (fun w hw => by omega)⟩ (by omega)
    · rintro k1 z ⟨x, bn', pt, us, fr, f, u', rfl, hx, hpt, hP', hfr', ⟨g, hg⟩, hiff, hlex⟩
      try dsimp only
      rw [if_pos (nI_le (Nat.le_refl _) (by omega))]
      refine OK_some (Or.inl ⟨rfl, f, hpt, (hiff f (fun _ _ => rfl)).mp ?_, fun h hh => hlex h hh⟩)
      exact Pt_congr (fun i hi ht => by have := (hx i (by omega)).mp ht; omega) hg
    · rintro k1 it z hit ⟨x, bn', pt, us, fr, f, u', rfl, hx, hpt, hP', hfr', hex, hiff, hlex⟩ hk1
      try dsimp only
      rw [if_neg (nI_ge hit (by omega)), gB_eq]
      have hitx : bt x it = true := (hx it (by omega)).mpr ⟨Nat.le_refl _, hit⟩
      have hxin : inN N x := fun i hi hb => ((hx i hi).mp hb).2
      refine OK_gM (Pai_settle_ok hN hsym hirr hF hit hitx rfl hxin hfr' hP' hex) ?_
      rintro ⟨q, bn2, us2, fr2⟩ ⟨c, hc, rfl, hfc, hoc, hqc, hle, rfl, rfl, hrow⟩
      try dsimp only at hrow ⊢
      rw [gC_t (inb_nI (by omega) (by omega)), gB_eq, nI_1, nI_clamp (by omega)]
      have hw : wo N (btT x) (btT (x &&& (((1 : Int32) <<< (nI it &&& 31)) ^^^ (-1)))) it := wo_rm hN hit
      have hfx : ∀ g, eqB (setN f it c) g (it + 1) → eqB f g it ∧ g it = c := by
        intro g hg
        refine ⟨fun w hw => ?_, ?_⟩
        · have := hg w (by omega)
          rw [setN_ne (by omega)] at this
          exact this
        · have := hg it (by omega)
          rw [setN_same] at this
          exact this.symm
      refine hk1 _ ⟨_, _, _, _, fr2, setN f it c, plus1 u' c, rfl, fun i hi => ?_, fun i hi => ?_, PaiOK_step hN hP' hit hitx hoc, fun i hi hbi c' h1 h2 => ?_, (QC_row hrow).mpr hqc, fun g hg => ?_, fun h hh => ?_⟩
      · rw [b_rm_iff x (by omega) hi, hx i hi]; omega
      · by_cases e : i = it
        · subst e; rw [upd_same, setN_same]
        · rw [upd_ne e, setN_ne e]; exact hpt i (by omega)
      · rw [hrow i hi hbi]
        exact spV_hi (by omega) h2 (hfr' i hi ((b_rm_iff x (by omega) (by omega)).mp hbi).1 c' h1 h2)
      · obtain ⟨h1, h2⟩ := hfx g hg
        rw [← hiff g h1, Pt_step hsym hirr hit hitx hw (frAt_sp hK hc) hc hfc h2]
        constructor
        · exact Pt_fr (fun _ _ => rfl) (fun i d hi hd ht => by show bt (fr2 0 i) d = bt (spV near (fr 0) it c i) d; rw [hrow i hi ht])
        · exact Pt_fr (fun _ _ => rfl) (fun i d hi hd ht => by show bt (spV near (fr 0) it c i) d = bt (fr2 0 i) d; rw [hrow i hi ht])
      · rcases hlex h hh with e | ⟨j, hj, e, l⟩
        · have hp := (hiff h e).mpr hh
          obtain ⟨a1, a2, a3⟩ := Pt_at hK hsym hirr hit hitx hw (fun q => (hP'.2.2 q).2.2.2.2.2.2) hp
          rcases Nat.lt_trichotomy (h it) c with q | q | q
          · exact absurd a3 (hle _ q a1 a2)
          · refine Or.inl (fun w hw => ?_)
            by_cases e2 : w = it
            · subst e2; rw [setN_same]; exact q.symm
            · rw [setN_ne e2]; exact e w (by omega)
          · exact Or.inr ⟨it, by omega, eqB_trans (eqB_symm (setN_eqB f it c)) e, by rw [setN_same]; exact q⟩
        · exact Or.inr ⟨j, by omega, eqB_trans (eqB_symm (eqB_le (setN_eqB f it c) (by omega))) e, by rw [setN_ne (by omega)]; exact l⟩
  · rw [if_pos rfl]
    exact OK_some (Or.inr ⟨rfl, fun g hg => g4 ⟨g, hg⟩⟩)
