/-! PURE, 31: the painter's search -/
theorem Pt_choice {nr fr : Nat → Nat → Bool} {frc : Nat → Nat → Nat → Bool} {N K s o it : Nat} {T T' : Nat → Bool} {ev : Prop} {u : Nat → Nat} (hsym : ∀ i j, i < N → j < N → nr i j = true → nr j i = true) (hirr : ∀ i, i < N → ¬ nr i i = true) (hit : it < N) (hT : T it = true) (hw : wo N T T' it) (hf : ∀ c, c < K → frAt nr fr (frc c) N K T' it c) (hE : ev → EV N K s o T u) : (∃ g, Pt nr fr N K T ev s u g) ↔ ∃ c, fr it c = true ∧ opn ev K s o u c ∧ ∃ g, Pt nr (frc c) N K T' ev s (plus1 u c) g := by
  constructor
  · rintro ⟨g, hg⟩
    obtain ⟨h1, h2⟩ := hg.1 it hit hT
    exact ⟨g it, h2, ⟨h1, fun q => EV_open q (hE q) hit hT hg⟩, g, (Pt_step hsym hirr hit hT hw (hf _ h1) h1 h2 rfl).mp hg⟩
  · rintro ⟨c, h1, ⟨hc, ho⟩, g, hg⟩
    refine ⟨setN g it c, (Pt_step hsym hirr hit hT hw (hf c hc) hc h1 (setN_same _ _ _)).mpr ?_⟩
    exact Pt_congr (fun i hi ht => (setN_ne ((hw i hi).mp ht).2).symm) hg
/-- what is known of the painter's numbers -/
def PaiOK (N K s o : Nat) (e0 sh bi bn T : Int32) (uses : Nat → Int32) (u : Nat → Nat) : Prop :=
  K ≤ 12 ∧ (e0 = 0 → K = 12) ∧ (¬ e0 = 0 → sh = nI s ∧ s < 17 ∧ bi = nI o ∧ o < 17 ∧ bn = nI (fullN K s u) ∧ (∀ c, c < K → uses c = nI (u c)) ∧ EV N K s o (btT T) u)
theorem PaiOK_step {N K s o it c : Nat} {e0 sh bi bn T : Int32} {uses : Nat → Int32} {u : Nat → Nat} (hN : N ≤ 16) (h : PaiOK N K s o e0 sh bi bn T uses u) (hit : it < N) (hT : bt T it = true) (ho : opn (¬ e0 = 0) K s o u c) : PaiOK N K s o e0 sh bi (useB sh bn (uses c)) (T &&& (((1 : Int32) <<< (nI it &&& 31)) ^^^ (-1))) (upd uses c (uses c + 1)) (plus1 u c) := by
  obtain ⟨h1, h2, h3⟩ := h
  obtain ⟨hc, ho⟩ := ho
  refine ⟨h1, h2, fun q => ?_⟩
  obtain ⟨rfl, hs, rfl, hoo, rfl, hu, hE⟩ := h3 q
  have ho' := ho q
  have hf := fullN_n K s u
  have hE1 := hE.1 c hc
  have hinc := fullN_inc (u := u) (x := c) (s := s) K
  refine ⟨rfl, hs, rfl, hoo, ?_, fun d hd => ?_, EV_step hE hit hT (wo_rm hN hit) hc ho'⟩
  · unfold useB
    rw [hu c hc, nI_1]
    show _ = nI (fullN K s (fun d => u d + if c = d then 1 else 0))
    rw [hinc]
    by_cases e : u c = s
    · rw [if_neg (nI_ge (by omega) (by omega)), if_pos ⟨hc, e⟩, nI_1]
    · rw [if_pos (nI_le (by omega) (by omega)), if_neg (fun w => e w.2), Nat.add_zero]
  · unfold plus1
    by_cases e : c = d
    · subst e; rw [upd_same, hu c hc, nI_1, if_pos rfl]
    · rw [upd_ne (fun w => e w.symm), hu d hd, if_neg e, Nat.add_zero]
theorem PaiOK_open {F N K s o : Nat} {e0 sh bi bn T : Int32} {uses : Nat → Int32} {u : Nat → Nat} (h : PaiOK N K s o e0 sh bi bn T uses u) (hF : 100 < F) : OK (m_Pai_openColours F (nI N) e0 (nI K) sh bi bn uses) (fun r => ∀ c, c < 32 → (bt r c = true ↔ opn (¬ e0 = 0) K s o u c)) := by
  refine Pai_open_ok h.1 h.2.1 (fun q => ?_) hF
  obtain ⟨h1, h2, h3, h4, h5, h6, h7⟩ := h.2.2 q
  exact ⟨h1, h2, h3, h4, h5, fun c hc => ⟨h6 c hc, h7.1 c hc⟩⟩
theorem frAt_sp {near row : Nat → Int32} {N K it c : Nat} {T' : Nat → Bool} (hK : K ≤ 12) (hc : c < K) : frAt (bt2 near) (bt2 row) (bt2 (spV near row it c)) N K T' it c := fun i d hi hd _ => spV_bt (by omega) (by omega)
/-- colour c goes for item it, the others to follow -/
def QC (near row : Nat → Int32) (N K s : Nat) (ev : Prop) (O : Int32) (u : Nat → Nat) (it c : Nat) : Prop := ∃ g, Pt (bt2 near) (bt2 (spV near row it c)) N K (btT O) ev s (plus1 u c) g
theorem QC_like {near row : Nat → Int32} {N K s it c e : Nat} {ev : Prop} {O : Int32} {u : Nat → Nat} (hK : K ≤ 12) (hc : c < K) (he : e < K) (hu : ev → u e = u c) (hl : ∀ i, i < N → bt O i = true → bt (row i) e = bt (row i) c) (h : QC near row N K s ev O u it c) : QC near row N K s ev O u it e := by
  obtain ⟨g, hg⟩ := h
  exact ⟨_, Pt_like (frAt_sp hK hc) (frAt_sp hK he) hc he hu hl hg⟩
theorem QC_0 {near row : Nat → Int32} {N K s it c i : Nat} {ev : Prop} {O : Int32} {u : Nat → Nat} (hi : i < N) (hO : bt O i = true) (h0 : spV near row it c i = 0) : ¬ QC near row N K s ev O u it c := by
  rintro ⟨g, hg⟩
  have := (hg.1 i hi hO).2
  have e : bt2 (spV near row it c) i (g i) = false := by show bt (spV near row it c i) _ = false; rw [h0, b_0]
  rw [e] at this
  cases this
theorem QC_row {near row fr' : Nat → Int32} {N K s it c : Nat} {ev : Prop} {O : Int32} {u : Nat → Nat} (h : ∀ i, i < N → bt O i = true → fr' i = spV near row it c i) : (∃ g, Pt (bt2 near) (bt2 fr') N K (btT O) ev s (plus1 u c) g) ↔ QC near row N K s ev O u it c := by
  constructor
  · rintro ⟨g, hg⟩
    exact ⟨g, Pt_fr (fun _ _ => rfl) (fun i d hi hd ht => by show bt (fr' i) d = bt (spV near row it c i) d; rw [h i hi ht]) hg⟩
  · rintro ⟨g, hg⟩
    exact ⟨g, Pt_fr (fun _ _ => rfl) (fun i d hi hd ht => by show bt (spV near row it c i) d = bt (fr' i) d; rw [h i hi ht]) hg⟩
theorem spV_hi {near row : Nat → Int32} {it c i d : Nat} (hc : c < 32) (hd : d < 32) (h : bt (row i) d = false) : bt (spV near row it c i) d = false := by
  cases hb : bt (spV near row it c i) d with
  | false => rfl
  | true => rw [((spV_bt hc hd).mp hb).1] at h; cases h
theorem bt_f {x : Int32} {i : Nat} (h : ¬ bt x i = true) : bt x i = false := by
  cases hb : bt x i with
  | false => rfl
  | true => exact absurd hb h
theorem Pai_paintable_ok {F N K s o : Nat} {e0 sh bi : Int32} {near : Nat → Int32} (hN : N ≤ 16) (hsym : ∀ i j, i < N → j < N → bt (near i) j = true → bt (near j) i = true) (hirr : ∀ i, i < N → ¬ bt (near i) i = true) (hF : 100 < F) : ∀ (d dep : Nat) (T bn : Int32) (u : Nat → Nat) (uses : Nat → Int32) (free : Nat → Nat → Int32), cT (btT T) N < d → dep + cT (btT T) N ≤ 16 → inN N T → (∀ i, i < N → bt T i = true → ∀ c, 12 ≤ c → c < 32 → bt (free dep i) c = false) → PaiOK N K s o e0 sh bi bn T uses u → OK (m_Pai_paintable F d (nI N) e0 (nI K) sh bi bn near uses free (nI dep) T) (fun r => r.2.1 = bn ∧ r.2.2.1 = uses ∧ (∀ a, a ≤ dep → r.2.2.2 a = free a) ∧ ((r.1 = 1 ∧ ∃ g, Pt (bt2 near) (bt2 (free dep)) N K (btT T) (¬ e0 = 0) s u g) ∨ (r.1 = 0 ∧ ¬ ∃ g, Pt (bt2 near) (bt2 (free dep)) N K (btT T) (¬ e0 = 0) s u g))) := by
  intro d
  induction d with
  | zero => intro dep T bn u uses free h; omega
  | succ d ih =>
    intro dep T bn u uses free hd hdep hT hfr hP
    obtain ⟨hK, hK0, hPe⟩ := id hP
    rw [m_Pai_paintable]
    dsimp only
    rw [if_pos (show nI dep ≤ 16 from nI_le (a := dep) (b := 16) (by omega) (by omega))]
    generalize hPP : (fun r : Int32 × Int32 × (Nat → Int32) × (Nat → Nat → Int32) => r.2.1 = bn ∧ r.2.2.1 = uses ∧ (∀ a, a ≤ dep → r.2.2.2 a = free a) ∧ ((r.1 = 1 ∧ ∃ g, Pt (bt2 near) (bt2 (free dep)) N K (btT T) (¬ e0 = 0) s u g) ∨ (r.1 = 0 ∧ ¬ ∃ g, Pt (bt2 near) (bt2 (free dep)) N K (btT T) (¬ e0 = 0) s u g))) = PP
    have out : ∀ (b : Int32) (fr : Nat → Nat → Int32), (∀ a, a ≤ dep → fr a = free a) → ((b = 1 ∧ ∃ g, Pt (bt2 near) (bt2 (free dep)) N K (btT T) (¬ e0 = 0) s u g) ∨ (b = 0 ∧ ¬ ∃ g, Pt (bt2 near) (bt2 (free dep)) N K (btT T) (¬ e0 = 0) s u g)) → OK (some (b, bn, uses, fr)) PP := by
      intro b fr h1 h2
      rw [← hPP]
      exact OK_some ⟨rfl, rfl, h1, h2⟩
    refine OK_gBQ (fun J => ((¬ e0 = 0) → ∀ c, c < K → s ≤ u c + cP (fun i => btT T i && bt2 (free dep) i c) N) → OK J PP) ?_ ?_
    · intro hst
      refine OK_gBQ (fun J => ∀ R : Int32, inN N R → (∀ i, i < 32 → bt R i = true → bt T i = true) → ((∃ g, Pt (bt2 near) (bt2 (free dep)) N K (btT R) (¬ e0 = 0) s u g) ↔ ∃ g, Pt (bt2 near) (bt2 (free dep)) N K (btT T) (¬ e0 = 0) s u g) → (¬ e0 = 0 → R = T) → cT (btT R) N ≤ cT (btT T) N → OK (J R) PP) ?_ ?_
      · intro R hR hRT hiff hRe hcR
        try dsimp only
        by_cases hR0 : R = 0
        · rw [if_pos hR0]
          refine out _ _ (fun _ _ => rfl) (Or.inl ⟨rfl, hiff.mp ⟨fun _ => 0, Pt_0 (fun i hi => ?_) (fun q c hc => ?_)⟩⟩)
          · show ¬ bt R i = true
            rw [hR0, b_0]; decide
          · have h1 := hst q c hc
            have h2 := (hPe q).2.2.2.2.2.2.1 c hc
            have h3 : cP (fun i => btT T i && bt2 (free dep) i c) N = 0 := by
              refine cP_0 (i := 0) N (Nat.zero_le _) (fun v _ _ => ?_)
              show (bt T v && bt (free dep v) c) = false
              rw [← hRe q, hR0, b_0]; rfl
            omega
        · rw [if_neg hR0]
          have hPR : PaiOK N K s o e0 sh bi bn R uses u := ⟨hK, hK0, fun q => by rw [hRe q]; exact hPe q⟩
          refine OK_gM (PaiOK_open hPR hF) ?_
          intro op hop
          refine OK_gM (Pai_tightest_ok hN hR hR0 (fun c h1 h2 => bt_f (fun w => by have := ((hop c h2).mp w).1; omega)) (by omega) hF) ?_
          rintro _ ⟨it, hit, rfl, hitR⟩
          rw [gC_t (inb_nI (by omega) (by omega)), gC_t (inb_nI (by omega) (by omega)), nI_clamp (by omega), nI_clamp (by omega), gB_eq, gB_eq]
          have hw : wo N (btT R) (btT (R &&& (((1 : Int32) <<< (nI it &&& 31)) ^^^ (-1)))) it := wo_rm hN hit
          have hOin : inN N (R &&& (((1 : Int32) <<< (nI it &&& 31)) ^^^ (-1))) := inN_rm hR (by omega)
          have hOT : ∀ i, i < 32 → bt (R &&& (((1 : Int32) <<< (nI it &&& 31)) ^^^ (-1))) i = true → bt T i = true := fun i hi hb => hRT i hi ((b_rm_iff R (by omega) hi).mp hb).1
          have hcO := cT_wo N hw hitR
          rw [if_pos hit] at hcO
          generalize hO : R &&& (((1 : Int32) <<< (nI it &&& 31)) ^^^ (-1)) = O at hw hOin hOT hcO ⊢
          have hch := Pt_choice (nr := bt2 near) (fr := bt2 (free dep)) (frc := fun c => bt2 (spV near (free dep) it c)) (N := N) (K := K) (s := s) (o := o) (it := it) (T := btT R) (T' := btT O) (ev := ¬ e0 = 0) (u := u) hsym hirr hit hitR hw (fun c hc => frAt_sp hK hc) (fun q => by rw [hRe q]; exact (hPe q).2.2.2.2.2.2)
          have hbit : ∀ c, c < K → (bt ((free dep it) &&& op) c = true ↔ bt (free dep it) c = true ∧ opn (¬ e0 = 0) K s o u c) := by
            intro c hc
            rw [b_and, Bool.and_eq_true, hop c (by omega)]
          generalize hCH : (free dep it) &&& op = CH at hbit ⊢
          refine OK_for K (fun c z => ∃ fr' : Nat → Nat → Int32, z = (nI c, bn, uses, fr') ∧ (∀ a, a ≤ dep → fr' a = free a) ∧ ∀ e, e < c → bt CH e = true → ¬ QC near (free dep) N K s (¬ e0 = 0) O u it e) ?_ ?_ F 0 _ (by omega) ⟨free, rfl, fun _ _ => rfl, fun e he => by omega⟩ (by omega)
          · rintro k1 z ⟨fr', rfl, h1, h2⟩
            try dsimp only
            rw [if_pos (nI_le (Nat.le_refl _) (by omega))]
            refine out _ _ h1 (Or.inr ⟨rfl, fun w => ?_⟩)
            obtain ⟨c, c1, c2, c3⟩ := hch.mp (hiff.mpr w)
            exact h2 c c2.1 ((hbit c c2.1).mpr ⟨c1, c2⟩) c3
          · rintro k1 c z hc ⟨fr', rfl, h1, h2⟩ hk1
            try dsimp only
            rw [if_neg (nI_ge hc (by omega))]
            have skip : ∀ fr2 : Nat → Nat → Int32, (∀ a, a ≤ dep → fr2 a = free a) → (bt CH c = true → ¬ QC near (free dep) N K s (¬ e0 = 0) O u it c) → OK (k1 (nI (c + 1), bn, uses, fr2)) PP := by
              intro fr2 g1 g2
              refine hk1 _ ⟨fr2, rfl, g1, fun e he hb => ?_⟩
              by_cases q : e = c
              · subst q; exact g2 hb
              · exact h2 e (by omega) hb
            by_cases hb : bt CH c = true
            · rw [if_neg ((b_ne_t (by omega)).mpr hb)]
              refine OK_gM (Pai_like_ok hN (by omega) (by omega) hF) ?_
              rintro q (rfl | ⟨rfl, e, he, hbe, hue, hal⟩)
              · rw [if_pos rfl]
                refine OK_gM (P' := fun a => a = (useB sh bn (uses c), upd uses c (uses c + 1))) ⟨_, Pai_use_eq (by omega), rfl⟩ ?_
                rintro _ rfl
                try dsimp only
                refine OK_gM (Pai_spread_ok hN hit (by omega) (by omega) hF) ?_
                rintro ⟨q, fr2⟩ ⟨hs1, hs2⟩
                try dsimp only at hs1 hs2 ⊢
                have hs1' : ∀ a, a ≤ dep → fr2 a = free a := fun a ha => by rw [hs1 a (by omega)]; exact h1 a ha
                rw [h1 dep (Nat.le_refl _)] at hs2
                have hco := (hbit c hc).mp hb
                refine OK_gBQ (fun J => ∀ (b : Int32) (fr3 : Nat → Nat → Int32), (∀ a, a ≤ dep → fr3 a = free a) → ((b = 0 ∧ ¬ QC near (free dep) N K s (¬ e0 = 0) O u it c) ∨ (¬ b = 0 ∧ QC near (free dep) N K s (¬ e0 = 0) O u it c)) → OK (J b (useB sh bn (uses c)) (upd uses c (uses c + 1)) fr3) PP) ?_ ?_
                · intro b fr3 g1 g2
                  try dsimp only
                  refine OK_gM (P' := fun a => a = (bn, uses)) ⟨_, Pai_unuse_eq (by omega), rfl⟩ ?_
                  rintro _ rfl
                  try dsimp only
                  rcases g2 with ⟨rfl, g2⟩ | ⟨g0, g2⟩
                  · rw [if_pos rfl, gB_eq, nI_1]
                    exact skip fr3 g1 (fun _ => g2)
                  · rw [if_neg g0]
                    exact out _ _ g1 (Or.inl ⟨rfl, hiff.mp (hch.mpr ⟨c, hco.1, hco.2, g2⟩)⟩)
                · intro J hJ
                  try dsimp only
                  refine OK_gBQ (fun J' => ∀ (fr3 : Nat → Nat → Int32), (∀ a, a ≤ dep → fr3 a = free a) → ¬ QC near (free dep) N K s (¬ e0 = 0) O u it c → OK (J' (useB sh bn (uses c)) (upd uses c (uses c + 1)) fr3) PP) ?_ ?_
                  · intro fr3 g1 g2
                    exact hJ 0 fr3 g1 (Or.inl ⟨rfl, g2⟩)
                  · intro J' hJ'
                    try dsimp only
                    rcases hs2 with ⟨rfl, hs2⟩ | ⟨rfl, i, hi, hbi, hs2⟩
                    · rw [if_neg (show ¬ (1 : Int32) = 0 by decide), nI_1]
                      have hPO := PaiOK_step hN hPR hit hitR hco.2
                      rw [hO] at hPO
                      refine OK_gM (ih (dep + 1) O _ (plus1 u c) _ fr2 (by omega) (by omega) hOin (fun i hi hbi c' hc1 hc2 => ?_) hPO) ?_
                      · rw [hs2 i hi hbi]
                        exact spV_hi (by omega) hc2 (hfr i hi (hOT i (by omega) hbi) c' hc1 hc2)
                      · rintro ⟨q, bn4, us4, fr4⟩ ⟨rfl, rfl, g3, g4⟩
                        try dsimp only at g3 g4 ⊢
                        have g3' : ∀ a, a ≤ dep → fr4 a = free a := fun a ha => by rw [g3 a (by omega)]; exact hs1' a ha
                        rw [QC_row hs2] at g4
                        rcases g4 with ⟨rfl, g4⟩ | ⟨rfl, g4⟩
                        · rw [if_neg (show ¬ (1 : Int32) = 0 by decide)]
                          exact hJ 1 fr4 g3' (Or.inr ⟨by decide, g4⟩)
                        · rw [if_pos rfl]
                          exact hJ' fr4 g3' g4
                    · rw [if_pos rfl]
                      exact hJ' fr2 hs1' (QC_0 hi hbi hs2)
              · rw [if_neg (show ¬ (1 : Int32) = 0 by decide), gB_eq, nI_1]
                refine skip fr' h1 (fun _ w => h2 e he hbe (QC_like hK hc (by omega) (fun q => ?_) (fun i hi hbi => ?_) w))
                · have := hue q
                  obtain ⟨-, -, -, -, -, hu, hE⟩ := hPe q
                  rw [hu e (by omega), hu c hc] at this
                  have l1 := hE.1 e (by omega)
                  have l2 := hE.1 c hc
                  have l3 := (hPe q).2.1
                  exact nI_inj (by omega) (by omega) this
                · have := hal i hi hbi
                  rw [h1 dep (Nat.le_refl _)] at this
                  exact this
            · rw [if_pos ((b_test CH (by omega)).mpr (bt_f hb)), gB_eq, nI_1]
              exact skip fr' h1 (fun w => absurd w hb)
      · intro J hJ
        try dsimp only
        by_cases h0 : e0 = 0
        · rw [if_pos h0]
          have hK12 := hK0 h0
          refine OK_gM (Pai_easy_ok (ev := ¬ e0 = 0) (s := s) (u := u) hN (fun q => q h0) hsym hirr hT (by omega) hfr hF) ?_
          rintro R ⟨hR1, hR2⟩
          rw [← hK12] at hR2
          refine hJ R (fun i hi hb => hT i hi (hR1 i hi hb)) hR1 hR2 (fun q => absurd h0 q) ?_
          have hcc : ∀ (X : Int32) M, cT (btT X) M = cP (btT X) M := by
            intro X M
            induction M with
            | zero => rfl
            | succ M ih => rw [cT_s, cP_s, ih]
          rw [hcc, hcc]
          exact cP_le N (fun i hi hb => hR1 i (by omega) hb)
        · rw [if_neg h0]
          exact hJ T hT (fun _ _ w => w) Iff.rfl (fun _ => rfl) (Nat.le_refl _)
    · intro J hJ
      try dsimp only
      by_cases h0 : e0 = 0
      · rw [if_pos h0]
        exact hJ (fun q => absurd h0 q)
      · rw [if_neg h0]
        obtain ⟨rfl, hs, rfl, hoo, rfl, hu, hE⟩ := hPe h0
        refine OK_gM (Pai_starved_ok hN hK hs (fun c hc => ⟨hu c hc, hE.1 c hc⟩) (by omega) hF) ?_
        rintro q (⟨rfl, hq⟩ | ⟨rfl, c, hc, hq⟩)
        · rw [if_pos rfl]
          exact hJ (fun _ => hq)
        · rw [if_neg (show ¬ (1 : Int32) = 0 by decide)]
          exact out _ _ (fun _ _ => rfl) (Or.inr ⟨rfl, fun ⟨g, hg⟩ => Pt_starved h0 hc hq hg⟩)
