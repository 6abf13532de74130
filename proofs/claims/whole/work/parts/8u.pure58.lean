/-! PURE, 58: the class's polynomial whole -/
theorem Bd_1 {d c V : Nat} {nr : Nat → Nat → Prop} (h : Bd d c nr V) : 1 ≤ c ∧ ∃ e, d = e + 1 := by
  cases d with
  | zero => exact h.elim
  | succ d =>
    refine ⟨?_, d, rfl⟩
    rcases h 0 (sbN_0 V) (fun v hv => by rw [Nat.zero_testBit] at hv; cases hv) with ⟨-, w⟩ | ⟨w, -⟩
    · exact w
    · exact absurd rfl w
theorem sum_ind {x : Nat} (k : Nat) : sumN k (fun d => if x = d then 1 else 0) ≤ 1 := by
  have := sumN_inc (u := fun _ => 0) (x := x) k
  rw [sumN_0 k (fun _ _ => rfl)] at this
  have e : sumN k (fun d => (fun _ => 0) d + if x = d then 1 else 0) = sumN k (fun d => if x = d then 1 else 0) := sumN_eq k (fun d _ => Nat.zero_add _)
  rw [e] at this
  rw [this]
  by_cases h : x < k
  · rw [if_pos h]; exact Nat.le_refl _
  · rw [if_neg h]; exact Nat.zero_le _
theorem sumN_add {u t : Nat → Nat} : ∀ k, sumN k (fun i => u i + t i) = sumN k u + sumN k t := by
  intro k
  induction k with
  | zero => rfl
  | succ k ih => rw [sumN_s, sumN_s, sumN_s, ih]; omega
theorem sum_at {n ka : Nat} {near tail head : Nat → Int32} (h : GR n ka near tail head) : ∀ m, m ≤ ka → sumN 12 (fun y => cP (atB tail head y) m) ≤ 2 * m := by
  have hn := h.1
  intro m
  induction m with
  | zero => intro _; rw [sumN_0 (u := fun y => cP (atB tail head y) 0) 12 (fun _ _ => rfl)]; exact Nat.zero_le _
  | succ m ih =>
    intro hm
    have h1 := ih (by omega)
    obtain ⟨a, b, ha, hb, -, e1, e2, -, -⟩ := h.2.2.2.1 m (by omega)
    have h2 : sumN 12 (fun y => cP (atB tail head y) (m + 1)) ≤ sumN 12 (fun y => cP (atB tail head y) m + ((if a = y then 1 else 0) + (if b = y then 1 else 0))) := sumN_leq 12 (fun y hy => by
      rw [cP_s]
      by_cases q : atB tail head y m = true
      · rw [if_pos q]
        rcases atB_iff.mp q with w | w
        · rw [if_pos (nI_inj (by omega) (by omega) (e1.symm.trans w))]; omega
        · rw [if_pos (show b = y from nI_inj (by omega) (by omega) (e2.symm.trans w))]; omega
      · rw [if_neg q]; omega)
    rw [sumN_add, sumN_add] at h2
    have h3 := sum_ind (x := a) 12
    have h4 := sum_ind (x := b) 12
    omega
theorem pcN_cP {S : Nat} {p : Nat → Bool} : ∀ n, (∀ i, i < n → S.testBit i = p i) → pcN n S = cP p n := by
  intro n
  induction n with
  | zero => intro _; rfl
  | succ n ih => intro h; show pcN n S + _ = _; rw [cP_s, ih (fun i hi => h i (by omega)), h n (by omega)]
theorem root_Bd {n ka : Nat} {near tail head rows : Nat → Int32} (h : GR n ka near tail head) (hrows : ∀ v, v < 12 → rows v = near v) : okN (nrP rows) ∧ Bd 2700 300667 (nrP rows) (2 ^ n - 1) ∧ Qf (nrP rows) (2 ^ n - 1) ≤ 132 := by
  have hn := h.1
  have hp := pow_le12 hn
  have hp1 : 1 ≤ 2 ^ n := Nat.one_le_two_pow
  have hok : okN (nrP rows) := ⟨fun i j w => ⟨w.2.1, w.1, by rw [hrows j w.2.1]; exact GR_sym h w.1 (by have := w.2.1; omega) (by have := w.2.2; rw [hrows i w.1] at this; exact this)⟩, fun i w => (h.2.2.1 i i w.1 (by have := w.1; omega) (by have := w.2.2; rw [hrows i w.1] at this; exact this)).2.2.1 rfl⟩
  have hV : 2 ^ n - 1 < 2 ^ 12 := by
    show _ < 4096
    omega
  have hpc := pcN_le 12 (2 ^ n - 1)
  refine ⟨hok, ?_, ?_⟩
  · by_cases h12 : pcN 12 (2 ^ n - 1) < 12
    · refine Bd_mono _ 2700 _ 300667 _ _ (by omega) ?_ (Bd_all (pcN 12 (2 ^ n - 1)) h12 _ _ hok hV rfl)
      have := tt_mono (pcN 12 (2 ^ n - 1)) 12 (by omega)
      have ht12 : tt 12 = 300667 := rfl
      omega
    · have hn12 : n = 12 := by
        have h1 : pcN 12 (2 ^ n - 1) ≤ n := by
          have h2 : ∀ m, pcN m (2 ^ n - 1) ≤ n := by
            intro m
            have h3 : ∀ m, pcN m (2 ^ n - 1) ≤ min m n := by
              intro m
              induction m with
              | zero => exact Nat.zero_le _
              | succ m ih =>
                show pcN m (2 ^ n - 1) + _ ≤ _
                by_cases q : (2 ^ n - 1).testBit m = true
                · rw [if_pos q]; have := full_bit.mp q; omega
                · rw [if_neg q]; omega
            have := h3 m
            omega
          exact h2 12
        omega
      have hex : ∃ u, u < 12 ∧ dgV (nrP rows) (2 ^ n - 1) u ≤ 6 := by
        refine Classical.byContradiction (fun q => ?_)
        have hdeg : ∀ u, u < 12 → 7 ≤ cP (atB tail head u) ka := fun u hu => by
          have h1 : ¬ dgV (nrP rows) (2 ^ n - 1) u ≤ 6 := fun z => q ⟨u, hu, z⟩
          have h2 : dgV (nrP rows) (2 ^ n - 1) u = cP (fun j => bt (near u) j) 12 := pcN_cP 12 (fun i hi => by
            have h3 := nbV_bit (nr := nrP rows) (v := u) (i := i) hV
            cases hb : bt (near u) i <;> cases hc : (nbV (nrP rows) (2 ^ n - 1) u).testBit i
            · rfl
            · rw [hc] at h3
              have := (h3.mp rfl).2.2.2
              rw [hrows u hu, hb] at this; cases this
            · rw [hc] at h3
              exact absurd (h3.mpr ⟨full_bit.mpr (by omega), hu, hi, by rw [hrows u hu]; exact hb⟩) (by decide)
            · rfl)
          have h4 := deg_le_at h (y := u) (by omega)
          omega
        have h5 := sum_at h ka (Nat.le_refl _)
        have h6 : sumN 12 (fun _ => 7) ≤ sumN 12 (fun y => cP (atB tail head y) ka) := sumN_leq 12 (fun y hy => hdeg y hy)
        have h7 : sumN 12 (fun _ => 7) = 84 := rfl
        have h8 := h.2.1
        omega
      obtain ⟨u, hu, hd⟩ := hex
      exact Bd_12 hok hV (full_bit.mpr (by omega)) hd
  · have h1 := Qf_deg (nr := nrP rows) (d := 0) hok.irr hV (fun _ _ => Nat.zero_le _)
    have h2 : pcN 12 (2 ^ n - 1) * (pcN 12 (2 ^ n - 1) - 1 - 0) ≤ 12 * 11 := Nat.mul_le_mul hpc (by omega)
    omega
theorem wy_n {nr : Nat → Nat → Prop} {n : Nat} : ∀ k S, S < 2 ^ n → wy aT nr (n + 1) k S = wy aT nr n k S := by
  intro k
  induction k with
  | zero => intro S _; rfl
  | succ k ih =>
    intro S hS
    rw [wy_s, wy_s, pp_F hS]
    exact pp_congr n S _ _ hS (fun a b ha hb _ => by rw [ih b hb])
theorem wy_N {nr : Nat → Nat → Prop} {n k S : Nat} (hS : S < 2 ^ n) : ∀ m, wy aT nr (n + m) k S = wy aT nr n k S := by
  intro m
  induction m with
  | zero => rfl
  | succ m ih =>
    rw [← Nat.add_assoc, wy_n k S (Nat.lt_of_lt_of_le hS (Nat.pow_le_pow_right (by omega) (by omega))), ih]
/-- a net on the pile -/
def PE (M : Nat → Nat → Int32) (nd : Nat → Int32) (fa : Nat → Int64) (s V : Nat) (m : Nat → Nat) (c : Nat) : Prop := okN (nrP (M s)) ∧ entr (M s) V m (nd s) (fa s) ∧ (∃ d, Bd d c (nrP (M s)) V) ∧ Qf (nrP (M s)) V + 2 * s ≤ 132
theorem evL_C13 {C : Nat → Int} {k : Int} : evL 14 (fun i => if i < 13 then C i else 0) k = evL 13 C k := by
  rw [evL_top 13 _ k (if_neg (by omega))]
  exact evL_congr 13 _ _ k (fun i hi => if_pos hi)
def polC (near : Nat → Int32) (n : Nat) (pw : Nat → Int64) : Prop := ∀ i, i < 13 → pw i = LI (pco (nr0 near) n (2 ^ n - 1) i)
theorem Pol_update_ok {F n ka : Nat} {vs b1 ver : Int32} {near tail head nd : Nat → Int32} {fa pw pr : Nat → Int64} {M : Nat → Nat → Int32} (h : GR n ka near tail head) (hI : vs = ver → polC near n pw) (hF : 40 ^ 18 < F) : OK (m_Pol_update F vs nd fa pw pr (nI n) b1 ver near M) (fun r => r.1 = ver ∧ polC near n r.2.2.2.1) := by
  have hF1 : 1000000 < F := by omega
  have hn := h.1
  have hp := pow_le12 hn
  have hp1 : 1 ≤ 2 ^ n := Nat.one_le_two_pow
  unfold m_Pol_update
  by_cases hv : vs = ver
  · rw [if_pos hv]
    exact OK_some ⟨hv, hI hv⟩
  · rw [if_neg hv, gC_t (show inb 0 68 = true from inb_nI (i := 0) (by omega) (by omega)), gC_t (show cpyB (0 : Int32) (0 : Int32) (12 : Int32) 12 12 = true from cpyB_n (n := 12) (Nat.le_refl _) (Nat.le_refl _) (by omega))]
    refine OK_gM (P' := fun a => a = nI (2 ^ n - 1)) ⟨_, rfl, by show ((1 : Int32) <<< (nI n &&& 31)) - 1 = _; exact nI_mask hn⟩ ?_
    rintro _ rfl
    rw [gC_t (show inb 0 68 = true from inb_nI (i := 0) (by omega) (by omega)), gC_t (show inb 0 68 = true from inb_nI (i := 0) (by omega) (by omega)), show (0 : Int32).toNatClampNeg = 0 from rfl, show (12 : Int32).toNatClampNeg = 12 from rfl]
    generalize hPP : (fun r : Int32 × (Nat → Int32) × (Nat → Int64) × (Nat → Int64) × (Nat → Int64) × (Nat → Nat → Int32) => r.1 = ver ∧ polC near n r.2.2.2.1) = PP
    have hrows : ∀ v, v < 12 → gF M 0 (va_cpy near (M 0) 0 0 12) 0 v = near v := fun v hv => by rw [gF_at]; exact sb_cpy0 hv
    obtain ⟨r1, r2, r3⟩ := root_Bd h hrows
    have hcol : ∀ k, wy aT (nrP (gF M 0 (va_cpy near (M 0) 0 0 12) 0)) 12 k (2 ^ n - 1) = wy aT (nr0 near) n k (2 ^ n - 1) := fun k => by
      have h1 := wy_N (nr := nrP (gF M 0 (va_cpy near (M 0) 0 0 12) 0)) (n := n) (k := k) (S := 2 ^ n - 1) (by omega) (12 - n)
      rw [show n + (12 - n) = 12 by omega] at h1
      rw [h1]
      refine wy_same k _ (by omega) (fun i j hi hj => ?_)
      have hi' := full_bit.mp hi
      have hj' := full_bit.mp hj
      constructor
      · intro w
        have := w.2.2
        rw [hrows i w.1] at this
        exact this
      · intro w
        exact ⟨by omega, by omega, by rw [hrows i (by omega)]; exact w⟩
    refine OK_gLm (fun w z => ∃ (T i : Nat) (nd : Nat → Int32) (fa pw pr : Nat → Int64) (M : Nat → Nat → Int32) (Vs : Nat → Nat) (ms : Nat → Nat → Nat) (cs : Nat → Nat) (C : Nat → Int), z = (nI T - 1, nI i, nd, fa, pw, pr, M) ∧ T ≤ 67 ∧ (∀ s, s < T → PE M nd fa s (Vs s) (ms s) (cs s)) ∧ (∀ j, j < 13 → pw j = LI (C j)) ∧ (∀ k : Nat, evL 13 C (k : Int) + sumR (fun s => evP (M s) (Vs s) (ms s) k) T = wy aT (nr0 near) n k (2 ^ n - 1)) ∧ w = sumN T (fun s => 2 * cs s - 1) ∧ i + w ≤ 601333) ?_ F 601333 _ ⟨1, 0, _, _, _, _, _, fun _ => 2 ^ n - 1, fun _ _ => 0, fun _ => 300667, fun _ => 0, rfl, by omega, fun s hs => ?_, fun j hj => ?_, fun k => ?_, rfl, by omega⟩ (by omega)
    · rintro k1 w z ⟨T, i, nd, fa, pw, pr, M, Vs, ms, cs, C, rfl, hT, hPE, hpw, hev, rfl, hi⟩ hk1
      try dsimp only
      rw [if_neg (show ¬ (1000000 : Int32) ≤ nI i from nI_ge (b := 1000000) (by omega) (by omega))]
      cases T with
      | zero =>
        rw [if_pos (show nI 0 - 1 < 0 by decide), ← hPP]
        refine OK_some ⟨rfl, fun j hj => ?_⟩
        show pw j = _
        rw [hpw j hj]
        congr 1
        have hu := evL_uniq (m := 14) (c := fun i => if i < 13 then C i else 0) (d := pco (nr0 near) n (2 ^ n - 1)) (fun k => by
          rw [evL_C13, pco_ev (m := 13) (by omega) (by omega) k, ← hev k]
          show _ = _ + 0
          omega) j (by omega)
        rw [if_pos hj] at hu
        exact hu
      | succ T =>
        have e1 : nI (T + 1) - 1 = nI T := pk_sub (b := 1) (by omega)
        rw [e1, if_neg (show ¬ nI T < 0 from nI_nlt (a := T) (b := 0) (Nat.zero_le _) (by omega))]
        obtain ⟨p1, p2, ⟨d, p3⟩, p4⟩ := hPE T (by omega)
        obtain ⟨c1, d, rfl⟩ := Bd_1 p3
        refine OK_gM (Pol_take_ok (by omega) p1 p2 (by omega)) ?_
        rintro ⟨nd2, fa2⟩ ⟨g1, V', m', g2, g3, g4, g5⟩
        try dsimp only at g1 g2 ⊢
        have hVl : Vs T < 2 ^ 12 := p2.2.1
        have hX := p3 V' g3 g4
        have hsum : sumN (T + 1) (fun s => 2 * cs s - 1) = sumN T (fun s => 2 * cs s - 1) + (2 * cs T - 1) := rfl
        rw [gC_t (inb_nI (by omega) (by omega))]
        obtain ⟨q1, q2, q3, q4⟩ := id g2
        by_cases h0 : V' = 0
        · refine OK_gM (Pol_fewest_0 (by omega) (by rw [q1, h0]) (by omega)) ?_
          rintro _ rfl
          rw [gC_t (show inb 0 12 = true from inb_nI (i := 0) (by omega) (by omega)), gC_t (inb_nI (by omega) (by omega)), nI_clamp (n := T) (by omega), q1, h0, show (M T (0 : Int32).toNatClampNeg) &&& nI 0 = nI 0 from Int32.and_zero]
          refine OK_gM (P' := fun x => x = 0) (OK_mono (Pol_far_ok (N := 0) (by omega) (by decide) (by omega)) (fun x hx => hx.elim (fun w => w.1) (fun w => by
            obtain ⟨a, b, -, -, w, -⟩ := w
            rw [Nat.zero_testBit] at w; cases w))) ?_
          rintro _ rfl
          rw [gB_eq, if_pos rfl, gC_t (inb_nI (by omega) (by omega)), q3]
          have hlow : ∀ x, x < 12 → m' x = (fun x => if x < 12 then m' x else 0) x := fun x hx => (if_pos hx).symm
          have hm16 : ∀ x, (fun x => if x < 12 then m' x else 0) x < 16 := fun x => by
            dsimp only
            by_cases hx : x < 12
            · rw [if_pos hx]
              have h1 : ∀ k, x < k → m' x ≤ sumN k m' := by
                intro k
                induction k with
                | zero => intro h; omega
                | succ k ih =>
                  intro h
                  rw [sumN_s]
                  by_cases e : x = k
                  · subst e; omega
                  · have := ih (by omega); omega
              have := h1 12 hx
              omega
            · rw [if_neg hx]; omega
          have hs12 : sumN 12 (fun x => if x < 12 then m' x else 0) ≤ 12 := by
            rw [← sumN_eq 12 hlow]; omega
          rw [pkM_low 12 hlow]
          refine OK_gM (Pol_add_ok hm16 hs12 hpw (by omega)) ?_
          rintro ⟨pw2, pr2⟩ hpw2
          try dsimp only at hpw2 ⊢
          rw [gB_eq, gB_eq, nI_1, ← Int32.sub_eq_add_neg]
          refine hk1 (sumN T (fun s => 2 * cs s - 1)) _ (by omega) ⟨T, i + 1, nd2, fa2, pw2, pr2, M, Vs, ms, cs, _, rfl, by omega, fun s hs => ?_, hpw2, fun k => ?_, rfl, by omega⟩
          · obtain ⟨x1, x2, x3, x4⟩ := hPE s (by omega)
            refine ⟨x1, ?_, x3, x4⟩
            rw [(g1 s (by omega)).1, (g1 s (by omega)).2]
            exact x2
          · rw [evL_add, mC_ev 12 hs12, ← fkM_low 12 hlow, ← hev k, sumR_s, ← g5 k]
            unfold evP
            rw [h0, wy_z, Int.mul_one]
            omega
        · rcases hX with ⟨w, -⟩ | ⟨-, hX⟩
          · exact absurd w h0
          · have hQs := Qf_sub (nr := nrP (M T)) hVl g3
            obtain ⟨v0, hv0⟩ := PKv_ex (nr := nrP (M T)) h0
            obtain ⟨a0, ha0⟩ := PKa_ex (g4 v0 hv0.1)
            obtain ⟨b0, hb1, hb2, hb3⟩ := ha0.2.1
            have hQ2 := Qf_add p1 q2 (nb_in q2 ha0.1) (nb_in q2 hb1) hb2 hb3
            have hT65 : T ≤ 65 := by omega
            refine OK_gM (Pol_fewest_ok (by omega) q2 q1 h0 p1 (by omega)) ?_
            rintro _ ⟨v, rfl, s1⟩
            have hv12 := bit_lt q2 s1.1
            rw [gC_t (inb_nI hv12 (by omega)), gC_t (inb_nI (by omega) (by omega)), nI_clamp (n := T) (by omega), nI_clamp (n := v) (by omega), q1, nb_nI q2 hv12]
            have hN := nbV_lt (nrP (M T)) V' v
            refine OK_gM (Pol_far_ok (by omega) hN (by omega)) ?_
            rintro q hq
            obtain ⟨a, b, rfl, s2, s3, s4, s5⟩ : ∃ a b, q = nI (2 ^ a ||| 2 ^ b) ∧ PKa (nrP (M T)) (nbV (nrP (M T)) V' v) a ∧ (nbV (nrP (M T)) V' v).testBit b = true ∧ ¬ b = a ∧ ¬ nrP (M T) a b := hq.elim (fun w => absurd w.2 (g4 v s1.1)) id
            have hb12 := bit_lt hN s3
            have hab : a < b := ((upV_bit hN).mp (far_up p1 hN s2 b ((farV_bit hN).mpr ⟨s3, s4, s5⟩))).2
            have hor : 2 ^ a ||| 2 ^ b < 2 ^ 12 := Nat.or_lt_two_pow (Nat.pow_lt_pow_right (by omega) (by omega)) (Nat.pow_lt_pow_right (by omega) hb12)
            rw [gB_eq, if_neg (nI_nz (bit_nz (low_pair hab).1.1) (by omega)), nI_1 T, if_pos (show nI (T + 1) < (68 : Int32) from nI_lt (b := 68) (by omega) (by omega))]
            refine OK_gM (Pol_split_ok (by omega) q2 q1 p1 hab hb12 s5 (by omega)) ?_
            rintro ⟨nd3, fa3, M3⟩ ⟨s6, s7, s8, s9, s10, s11, s12⟩
            try dsimp only at s6 s7 s8 s9 s10 s11 s12 ⊢
            obtain ⟨c2, c3, t1, t2, t3⟩ := hX v a b s1 s2 s3 s4 s5
            obtain ⟨u1, -⟩ := Bd_1 t2
            obtain ⟨u2, -⟩ := Bd_1 t3
            have eAdd : nrP (M3 (T + 1)) = nrAdd (nrP (M T)) a b := by funext x y; exact propext (s10 x y)
            have eCon : nrP (M3 T) = nrCon (nrP (M T)) a b := by funext x y; exact propext (s11 x y)
            have haV := nb_in q2 s2.1
            have hbV := nb_in q2 s3
            rw [gB_eq, gB_eq, nI_1 i]
            have e2 : nI (T + 1) = nI (T + 2) - 1 := (pk_sub (a := T + 2) (b := 1) (by omega)).symm
            rw [e2]
            refine hk1 (sumN T (fun s => 2 * cs s - 1) + (2 * c3 - 1) + (2 * c2 - 1)) _ (by omega) ⟨T + 2, i + 1, nd3, fa3, pw, pr, M3, (fun s => if s = T then rmB V' b else if s = T + 1 then V' else Vs s), (fun s => if s = T then m' else if s = T + 1 then m' else ms s), (fun s => if s = T then c3 else if s = T + 1 then c2 else cs s), C, rfl, by omega, fun s hs => ?_, hpw, fun k => ?_, ?_, by omega⟩
            · dsimp only
              by_cases eT : s = T
              · subst eT
                rw [if_pos rfl, if_pos rfl, if_pos rfl]
                refine ⟨by rw [eCon]; exact okN_con p1 s5, ⟨s7, rmB_lt q2, by rw [s9]; exact q3, ?_⟩, ⟨d, by rw [eCon]; exact t3⟩, ?_⟩
                · have := pcN_rm 12 V' b (bit_lt q2 hbV) hbV
                  omega
                · rw [eCon]
                  have := Qf_con p1 q2 haV hbV s4 s5
                  omega
              · by_cases eT1 : s = T + 1
                · subst eT1
                  rw [if_neg eT, if_neg eT, if_neg eT, if_pos rfl, if_pos rfl, if_pos rfl]
                  refine ⟨by rw [eAdd]; exact okN_add p1 s4, ⟨s6, q2, by rw [s8]; exact q3, q4⟩, ⟨d, by rw [eAdd]; exact t2⟩, ?_⟩
                  rw [eAdd]
                  have := Qf_add p1 q2 haV hbV s4 s5
                  omega
                · rw [if_neg eT, if_neg eT, if_neg eT, if_neg eT1, if_neg eT1, if_neg eT1]
                  obtain ⟨y1, y2, y3⟩ := s12 s eT eT1
                  obtain ⟨x1, x2, x3, x4⟩ := hPE s (by omega)
                  unfold PE
                  rw [y1, y2, y3, (g1 s eT).1, (g1 s eT).2]
                  exact ⟨x1, x2, x3, x4⟩
            · dsimp only
              rw [sumR_s, sumR_s]
              have eS : sumR (fun s => evP (M3 s) (if s = T then rmB V' b else if s = T + 1 then V' else Vs s) (if s = T then m' else if s = T + 1 then m' else ms s) k) T = sumR (fun s => evP (M s) (Vs s) (ms s) k) T := sumR_eq T (fun s hs => by
                rw [if_neg (by omega), if_neg (by omega), if_neg (by omega), if_neg (by omega), (s12 s (by omega) (by omega)).2.2])
              have n1 : ¬ T + 1 = T := by omega
              rw [eS]
              simp only [eq_self, if_true, n1, if_false]
              rw [← hev k, sumR_s, ← g5 k]
              unfold evP
              rw [eCon, eAdd, wy_dc p1.sym p1.irr (fun e => s4 e.symm) s5 k V' q2 haV hbV, Int.mul_add]
              omega
            · dsimp only
              rw [sumN_s, sumN_s]
              have eS : sumN T (fun s => 2 * (if s = T then c3 else if s = T + 1 then c2 else cs s) - 1) = sumN T (fun s => 2 * cs s - 1) := sumN_eq T (fun s hs => by rw [if_neg (by omega), if_neg (by omega)])
              have n1 : ¬ T + 1 = T := by omega
              rw [eS]
              simp only [eq_self, if_true, n1, if_false]
    · have : s = 0 := by omega
      subst this
      refine ⟨r1, ⟨upd_same _ _ _, by show 2 ^ n - 1 < 4096; omega, ?_, ?_⟩, ⟨2700, r2⟩, by omega⟩
      · rw [pk_uLs]; rfl
      · have := pcN_le 12 (2 ^ n - 1)
        show sumN 12 (fun _ => 0) + pcN 12 (2 ^ n - 1) ≤ 12
        rw [sumN_0 12 (fun _ _ => rfl)]; omega
    · show fillA 13 (0 : Int64) pw j = _
      unfold fillA
      rw [if_pos hj]; rfl
    · rw [evL_0]
      show 0 + (0 + evP _ _ _ k) = _
      unfold evP
      have : fkM (fun _ => 0) (k : Int) 12 = 1 := by
        have : ∀ D, fkM (fun _ => 0) (k : Int) D = 1 := by
          intro D
          induction D with
          | zero => rfl
          | succ D ih => rw [fkM_s, ih, Int.pow_zero]; rfl
        exact this 12
      rw [this, Int.one_mul, hcol k]
      omega
theorem Pol_value_ok {F n ka : Nat} {vs b1 ver : Int32} {near tail head nd : Nat → Int32} {fa pw pr : Nat → Int64} {M : Nat → Nat → Int32} {x : Int64} (h : GR n ka near tail head) (hI : vs = ver → polC near n pw) (hF : 40 ^ 18 < F) : OK (m_Pol_valueAt F vs nd fa pw pr (nI n) b1 ver near M x) (fun r => r.1 = horn (fun i => LI (pco (nr0 near) n (2 ^ n - 1) i)) x (n + 1) 0 ∧ r.2.1 = ver ∧ polC near n r.2.2.2.2.1) := by
  have hn := h.1
  unfold m_Pol_valueAt
  refine OK_gM (Pol_update_ok h hI hF) ?_
  rintro ⟨v2, nd2, fa2, pw2, pr2, M2⟩ ⟨g1, g2⟩
  try dsimp only at g1 g2 ⊢
  rw [horn_eq (qw := pw2) (n + 1) 0 (fun j hj => (g2 j (by omega)).symm)]
  refine OK_gLm (fun m z => ∃ v : Int64, z = (v, nI m - 1) ∧ m ≤ 13 ∧ horn pw2 x m v = horn pw2 x (n + 1) 0) ?_ F (n + 1) _ ⟨0, by rw [show nI (n + 1) - 1 = nI n from pk_sub (b := 1) (by omega)], by omega, rfl⟩ (by omega)
  rintro k1 m z ⟨v, rfl, hm, hv⟩ hk1
  try dsimp only
  cases m with
  | zero =>
    rw [if_pos (show nI 0 - 1 < 0 by decide)]
    exact OK_some ⟨hv, g1, g2⟩
  | succ i =>
    rw [show nI (i + 1) - 1 = nI i from pk_sub (b := 1) (by omega), if_neg (show ¬ nI i < 0 from nI_nlt (a := i) (b := 0) (Nat.zero_le _) (by omega)), gC_t (inb_nI (by omega) (by omega)), gB_eq, gB_eq, nI_clamp (by omega), m1_at i (by omega)]
    exact hk1 i _ (by omega) ⟨_, rfl, by omega, hv⟩
theorem Pol_power_ok {F n ka i : Nat} {vs b1 ver : Int32} {near tail head nd : Nat → Int32} {fa pw pr : Nat → Int64} {M : Nat → Nat → Int32} (h : GR n ka near tail head) (hi : i ≤ n) (hI : vs = ver → polC near n pw) (hF : 40 ^ 18 < F) : OK (m_Pol_atPower F vs nd fa pw pr (nI n) b1 ver near M (nI i)) (fun r => r.1 = LI (pco (nr0 near) n (2 ^ n - 1) i) ∧ r.2.1 = ver ∧ polC near n r.2.2.2.2.1) := by
  have hn := h.1
  unfold m_Pol_atPower
  refine OK_gM (Pol_update_ok h hI hF) ?_
  rintro ⟨v2, nd2, fa2, pw2, pr2, M2⟩ ⟨g1, g2⟩
  try dsimp only at g1 g2 ⊢
  rw [if_neg (show ¬ nI i < 0 from nI_nlt (a := i) (b := 0) (Nat.zero_le _) (by omega)), if_neg (nI_nlt hi (by omega)), gC_t (inb_nI (by omega) (by omega)), nI_clamp (by omega)]
  exact OK_some ⟨g2 i (by omega), g1, g2⟩
theorem Pol_power_no {F n ka : Nat} {vs b1 ver p : Int32} {near tail head nd : Nat → Int32} {fa pw pr : Nat → Int64} {M : Nat → Nat → Int32} (h : GR n ka near tail head) (hp : p < 0 ∨ nI n < p) (hI : vs = ver → polC near n pw) (hF : 40 ^ 18 < F) : OK (m_Pol_atPower F vs nd fa pw pr (nI n) b1 ver near M p) (fun r => r.1 = 0 ∧ r.2.1 = ver ∧ polC near n r.2.2.2.2.1) := by
  unfold m_Pol_atPower
  refine OK_gM (Pol_update_ok h hI hF) ?_
  rintro ⟨v2, nd2, fa2, pw2, pr2, M2⟩ ⟨g1, g2⟩
  try dsimp only at g1 g2 ⊢
  by_cases q : p < 0
  · rw [if_pos q]; exact OK_some ⟨rfl, g1, g2⟩
  · rcases hp with hp | hp
    · exact absurd hp q
    · rw [if_neg q, if_pos hp]; exact OK_some ⟨rfl, g1, g2⟩
theorem CS_ways_ok {F n ka : Nat} {vs b1 ver : Int32} {near tail head nd : Nat → Int32} {fa pw pr : Nat → Int64} {M : Nat → Nat → Int32} {x : Int64} (h : GR n ka near tail head) (hI : vs = ver → polC near n pw) (hF : 40 ^ 18 < F) : OK (m_CS_ways F (nI n) b1 ver near vs nd fa pw pr M x) (fun r => r.1 = horn (fun i => LI (pco (nr0 near) n (2 ^ n - 1) i)) x (n + 1) 0 ∧ r.2.1 = ver ∧ polC near n r.2.2.2.2.1) := by
  unfold m_CS_ways
  refine OK_gM (Pol_value_ok h hI hF) ?_
  rintro ⟨q, v2, nd2, fa2, pw2, pr2, M2⟩ g
  exact OK_some g
theorem CS_coef_ok {F n ka i : Nat} {vs b1 ver : Int32} {near tail head nd : Nat → Int32} {fa pw pr : Nat → Int64} {M : Nat → Nat → Int32} (h : GR n ka near tail head) (hi : i ≤ n) (hI : vs = ver → polC near n pw) (hF : 40 ^ 18 < F) : OK (m_CS_coefficient F (nI n) b1 ver near vs nd fa pw pr M (nI i)) (fun r => r.1 = LI (pco (nr0 near) n (2 ^ n - 1) i) ∧ r.2.1 = ver ∧ polC near n r.2.2.2.2.1) := by
  unfold m_CS_coefficient
  refine OK_gM (Pol_power_ok h hi hI hF) ?_
  rintro ⟨q, v2, nd2, fa2, pw2, pr2, M2⟩ g
  exact OK_some g
theorem CS_coef_no {F n ka : Nat} {vs b1 ver p : Int32} {near tail head nd : Nat → Int32} {fa pw pr : Nat → Int64} {M : Nat → Nat → Int32} (h : GR n ka near tail head) (hp : p < 0 ∨ nI n < p) (hI : vs = ver → polC near n pw) (hF : 40 ^ 18 < F) : OK (m_CS_coefficient F (nI n) b1 ver near vs nd fa pw pr M p) (fun r => r.1 = 0 ∧ r.2.1 = ver ∧ polC near n r.2.2.2.2.1) := by
  unfold m_CS_coefficient
  refine OK_gM (Pol_power_no h hp hI hF) ?_
  rintro ⟨q, v2, nd2, fa2, pw2, pr2, M2⟩ g
  exact OK_some g
