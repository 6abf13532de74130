/-! the other calls over the relation -/
theorem tkn_le {n : Nat} {near : Nat → Int32} : ∀ (f : Nat) (rem : Int32) (cnt : Nat) (sq : Nat → Int32), (tkn n near f rem cnt sq).2.1 ≤ cnt + f := by
  intro f
  induction f with
  | zero => intro rem cnt sq; exact Nat.le_refl _
  | succ f ih =>
    intro rem cnt sq
    cases h : lowP (loose n near rem) n with
    | none => rw [tkn_none h]; show cnt ≤ _; omega
    | some v => rw [tkn_some h]; have := ih (rem &&& (((1 : Int32) <<< (nI v &&& 31)) ^^^ (-1))) (cnt + 1) (upd sq cnt (nI v)); omega
section PC
variable {F j n ka V c L : Nat} {near tail head : Nat → Int32} {pvs : Int32} {pw : Nat → Int64} {lvs lrs : Int32} {we ti al sh sd at_ : Nat → Int32} {hp hl : Int32} {nearM liM coM sdM tiM : Nat → Int32} {waM poM : Nat → Int64} {th tr : Int32}
theorem p_why (hF : 40 ^ 18 < F) {b1 b2 b3 b4 b5 b6 : Int32} {pn us ia : Nat → Int32} {fr : Nat → Nat → Int32} {nx : Nat → Int64} (h : REL j n ka V c L near tail head pvs pw lvs lrs we ti al sh sd at_ hp hl nearM liM coM sdM tiM waM poM) : ∃ (r b1' b2' b3' b4' b5' b6' : Int32) (pn' us' : Nat → Int32) (fr' : Nat → Nat → Int32) (hl' : Int32) (ia' : Nat → Int32) (waM' nx' : Nat → Int64), m_CS_why F (nI n) (nI ka) (nI V) near b1 b2 b3 b4 b5 b6 pn us al fr = some (r, b1', b2', b3', b4', b5', b6', pn', us', fr') ∧ m_Mo_why F th (nI n) (nI ka) (nI c) tr hp hl nearM liM ia waM nx = some (r, 0, hl', ia', waM', nx') ∧ REL (j + 1) n ka V c L near tail head pvs pw lvs lrs we ti al sh sd at_ hp hl' nearM liM coM sdM tiM waM' poM := by
  obtain ⟨h1, h2, h3, h4, h5, h6, h7, h8, h9, h10, h11, h12, h13, h14, h15, h16, h17, h18, h19⟩ := id h
  have hn := h1.1
  obtain ⟨⟨r, b1', b2', b3', b4', b5', b6', pn', us', fr'⟩, e1, q1⟩ := CS_why_ok (F := F) (b1 := nI ka) (b2 := nI V) (a1 := b1) (a2 := b2) (a3 := b3) (a4 := b4) (a5 := b5) (a6 := b6) (pnear := pn) (uses := us) (al := al) (free := fr) h1 (fun i hi => h9 i (by omega)) (by omega)
  obtain ⟨⟨r2, t2, hl', ia', waM', nx'⟩, e2, g1, g2, g3, g4⟩ := Mo_why_ok (F := F) (tt := th) (a := nI ka) (y := nI c) (zz := tr) (e1 := hp) (e2 := hl) (near := nearM) (lists := liM) (ia := ia) (ways := waM) (next := nx) hn h19 (by omega)
  dsimp only at q1 g1 g2 g3 g4
  have er : r2 = r := by rw [g1, q1, whyIs_two h11 h12]
  subst er; subst g2
  exact ⟨r2, b1', b2', b3', b4', b5', b6', pn', us', fr', hl', ia', waM', nx', e1, e2, h1, by omega, h3, h4, h5, h6, h7, h8, h9, h10, h11, h12, h13, h14, h15, h16, h17, h18, fun _ => g4⟩
theorem p_arcs (hF : 40 ^ 18 < F) (hm : ka ≤ 16) {b1 b2 b3 b4 b5 b6 : Int32} {pt pn us ar : Nat → Int32} {fr : Nat → Nat → Int32} (h : REL j n ka V c L near tail head pvs pw lvs lrs we ti al sh sd at_ hp hl nearM liM coM sdM tiM waM poM) : ∃ (r b1' b2' b3' b4' b5' b6' : Int32) (pt' pn' us' sd' : Nat → Int32) (fr' : Nat → Nat → Int32) (sdM' ar' : Nat → Int32), m_CS_arcs F (nI n) (nI ka) (nI V) near tail head b1 b2 b3 b4 b5 b6 pt pn us sd fr = some (r, b1', b2', b3', b4', b5', b6', pt', pn', us', sd', fr') ∧ m_Mo_arcs F th (nI n) (nI ka) (nI c) tr hp hl tail head sdM ar = some (r, 0, sdM', ar') ∧ REL (j + 1) n ka V c L near tail head pvs pw lvs lrs we ti al sh sd' at_ hp hl nearM liM coM sdM' tiM waM poM := by
  obtain ⟨h1, h2, h3, h4, h5, h6, h7, h8, h9, h10, h11, h12, h13, h14, h15, h16, h17, h18, h19⟩ := id h
  obtain ⟨⟨r, b1', b2', b3', b4', b5', b6', pt', pn', us', sd', fr'⟩, e1, k, f, q0, q1, q2⟩ := CS_arcs_ok (F := F) (b2 := nI V) (a1 := b1) (a2 := b2) (a3 := b3) (a4 := b4) (a5 := b5) (a6 := b6) (paint := pt) (pnear := pn) (uses := us) (shades := sd) (free := fr) h1 hm (by omega)
  obtain ⟨⟨r2, t2, sdM', ar'⟩, e2, k2, f2, g1, g2, g3, g4⟩ := Mo_arcs_ok (F := F) (m := ka) (t := th) (n' := nI n) (y := nI c) (zz := tr) (e1 := hp) (e2 := hl) (tail := tail) (head := head) (sh := sdM) (row := ar) hm hF
  dsimp only at q0 q1 q2 g1 g2 g3 g4
  obtain ⟨u1, u2⟩ := arcsIs_uniq q1 g3
  subst u1; subst q0; subst g1; subst g2
  have hk := h1.2.1
  exact ⟨nI k, b1', b2', b3', b4', b5', b6', pt', pn', us', sd', fr', sdM', ar', e1, e2, h1, by omega, h3, h4, h5, h6, h7, h8, h9, h10, h11, h12, h13, fun v hv => showsA_eq u2 q2 g4 v (by omega), fun v hv hv2 => by rw [g4 v hv2, if_neg (by omega)], h16, h17, h18, h19⟩
theorem p_clique (hF : 40 ^ 18 < F) {b : Int32} {fits : Nat → Int32} (h : REL j n ka V c L near tail head pvs pw lvs lrs we ti al sh sd at_ hp hl nearM liM coM sdM tiM waM poM) : ∃ (r b' : Int32) (fits' : Nat → Int32), m_CS_clique F (nI n) (nI ka) (nI V) near b fits = some (r, b', fits') ∧ m_Mo_clique F th (nI n) (nI ka) (nI c) tr hp hl nearM = some (r, 0) := by
  obtain ⟨h1, h2, h3, h4, h5, h6, h7, h8, h9, h10, h11, -⟩ := id h
  obtain ⟨⟨r, b', fits'⟩, e1, q1⟩ := CS_clique_ok (F := F) (a := nI ka) (v := nI V) (b := b) (fits := fits) h1 (by omega)
  obtain ⟨⟨r2, t2⟩, e2, g1, g2⟩ := Mo_clique_ok (F := F) (t := th) (a := nI ka) (y := nI c) (z := tr) (c := hp) (d := hl) h1 h11 (by omega)
  dsimp only at q1 g1 g2
  have := bestS_uniq q1 g1
  subst this; subst g2
  exact ⟨r, b', fits', e1, e2⟩
theorem p_apart (hF : 40 ^ 18 < F) {b : Int32} {fits : Nat → Int32} (h : REL j n ka V c L near tail head pvs pw lvs lrs we ti al sh sd at_ hp hl nearM liM coM sdM tiM waM poM) : ∃ (r b' : Int32) (fits' : Nat → Int32), m_CS_apart F (nI n) (nI ka) (nI V) near b fits = some (r, b', fits') ∧ m_Mo_apart F th (nI n) (nI ka) (nI c) tr hp hl nearM = some (r, 0) := by
  obtain ⟨h1, h2, h3, h4, h5, h6, h7, h8, h9, h10, h11, -⟩ := id h
  obtain ⟨⟨r, b', fits'⟩, e1, q1⟩ := CS_apart_ok (F := F) (a := nI ka) (v := nI V) (b := b) (fits := fits) h1 (by omega)
  obtain ⟨⟨r2, t2⟩, e2, g1, g2⟩ := Mo_apart_ok (F := F) (t := th) (a := nI ka) (y := nI c) (z := tr) (c := hp) (d := hl) h1 h11 (by omega)
  dsimp only at q1 g1 g2
  have := bestS_uniq q1 g1
  subst this; subst g2
  exact ⟨r, b', fits', e1, e2⟩
theorem p_chordal (hF : 40 ^ 18 < F) {sq : Nat → Int32} (h : REL j n ka V c L near tail head pvs pw lvs lrs we ti al sh sd at_ hp hl nearM liM coM sdM tiM waM poM) : ∃ (r : Int32) (c' : Nat) (tr' : Int32) (sq' : Nat → Int32), m_CS_chordal F (nI n) (nI ka) (nI V) near (nI c) tr sq = some (r, nI c', tr', sq') ∧ m_Mo_chordal F th (nI n) (nI ka) (nI c) tr hp hl nearM sq = some (r, 0, nI c', tr', sq') ∧ REL (j + 1) n ka V c' L near tail head pvs pw lvs lrs we ti al sh sd at_ hp hl nearM liM coM sdM tiM waM poM := by
  obtain ⟨h1, h2, h3, h4, h5, h6, h7, h8, h9, h10, h11, h12⟩ := id h
  obtain ⟨r1, e1, T, hT, q1⟩ := CS_chordal_ok (F := F) (a := nI ka) (v := nI V) (co := nI c) (re := tr) (sq := sq) h1 (by omega)
  obtain ⟨r2, e2, T2, hT2, q2⟩ := Mo_chordal_ok (F := F) (t := th) (a := nI ka) (y := nI c) (z := tr) (c := hp) (d := hl) (sq := sq) h1 h11 (by omega)
  have eT : T2 = T := hT2.trans hT.symm
  subst eT; subst q1; subst q2
  have hc : T2.2.1 ≤ 12 := by
    have := tkn_le (n := n) (near := near) n (((1 : Int32) <<< (nI n &&& 31)) - 1) 0 sq
    rw [hT]
    have hn := h1.1
    omega
  exact ⟨_, T2.2.1, T2.1, T2.2.2, e1, e2, h1, by omega, hc, h4, h5, h6, h7, h8, h9, h10, h11, h12⟩
theorem p_greedy (hF : 40 ^ 18 < F) {pe od io : Nat → Int32} (p : Int32) (h : REL j n ka V c L near tail head pvs pw lvs lrs we ti al sh sd at_ hp hl nearM liM coM sdM tiM waM poM) : ∃ (r : Int32) (ti' pe' tiM' od' io' : Nat → Int32), m_CS_greedy F (nI n) (nI ka) (nI V) near ti pe p = some (r, ti', pe') ∧ m_Mo_greedy F th (nI n) (nI ka) (nI c) tr hp hl nearM tiM od io p = some (r, 0, tiM', od', io') ∧ REL (j + 1) n ka V c L near tail head pvs pw lvs lrs we ti' al sh sd at_ hp hl nearM liM coM sdM tiM' waM poM := by
  obtain ⟨h1, h2, h3, h4, h5, h6, h7, h8, h9, h10, h11, h12, h13, h14, h15, h16, h17, h18, h19⟩ := id h
  rcases ix_or p (n := 4) (by omega) with ⟨o, ho, rfl⟩ | q
  · obtain ⟨⟨r, ti', pe'⟩, e1, t1, s1, q1, q2, q3⟩ := CS_greedy_ok (F := F) (o := o) (a := nI ka) (v := nI V) (tn := ti) (pe := pe) h1 ho (by omega)
    obtain ⟨⟨r2, t2, tiM', od', io'⟩, e2, u1, u2, g1, g2, g3, g4⟩ := Mo_greedy_ok (F := F) (o := o) (t := th) (a := nI ka) (y := nI c) (z := tr) (c := hp) (d := hl) (tn := tiM) (od := od) (io := io) h1 h11 ho (by omega)
    dsimp only at q2 q3 g2 g3 g4
    obtain ⟨w1, w2⟩ := GRun_uniq n _ _ _ _ (Nat.le_refl _) q1 g1
    subst w1; subst w2; subst q2; subst g3
    subst g2
    exact ⟨bitc s1, ti', pe', tiM', od', io', e1, e2, h1, by omega, h3, h4, h5, h6, h7, h8, h9, h10, h11, h12, h13, h14, h15, fun v hv => by rw [g4 v hv, q3 v hv], h17, h18, h19⟩
  · have q' : p < 0 ∨ (4 : Int32) ≤ p := q
    exact ⟨-1, ti, pe, tiM, od, io, CS_greedy_no q', Mo_greedy_no q', REL_j h⟩
theorem p_put (p1 p2 : Int32) (h : REL j n ka V c L near tail head pvs pw lvs lrs we ti al sh sd at_ hp hl nearM liM coM sdM tiM waM poM) : ∃ (r : Int32) (at' : Nat → Int32), m_CS_put F (nI n) (nI ka) (nI V) at_ p1 p2 = some (r, at') ∧ m_Mo_put F th (nI n) (nI ka) (nI c) tr hp hl at_ p1 p2 = some (r, 0, at') ∧ REL (j + 1) n ka V c L near tail head pvs pw lvs lrs we ti al sh sd at' hp hl nearM liM coM sdM tiM waM poM := by
  obtain ⟨h1, h2, h3, h4, h5, h6, h7, h8, h9, h10, h11, h12, h13, h14, h15, h16, h17, h18, h19⟩ := id h
  have hn := h1.1
  by_cases q : (∃ i, i < n ∧ p1 = nI i) ∧ colOK p2
  · obtain ⟨⟨i, hi, rfl⟩, hc⟩ := q
    refine ⟨1, upd at_ i p2, CS_put_ok hn hi hc, Mo_put_ok hn hi hc, h1, by omega, h3, h4, h5, h6, h7, h8, h9, h10, h11, h12, h13, h14, h15, h16, fun v hv => ?_, h18, h19⟩
    by_cases e : v = i
    · subst e; rw [upd_same]; exact hc
    · rw [upd_ne e]; exact h17 v hv
  · exact ⟨0, at_, CS_put_no hn q, Mo_put_no hn q, REL_j h⟩
theorem p_faults (hF : 40 ^ 18 < F) (h : REL j n ka V c L near tail head pvs pw lvs lrs we ti al sh sd at_ hp hl nearM liM coM sdM tiM waM poM) : ∃ r : Int32, m_CS_faults F (nI n) (nI ka) (nI V) tail head at_ = some r ∧ m_Mo_faults F th (nI n) (nI ka) (nI c) tr hp hl tail head at_ = some (r, 0) := by
  have h1 := h.1
  have hn := h1.1
  refine ⟨_, CS_faults_ok h1 (by omega), Mo_faults_ok h1.2.1 (fun i hi => ?_) (by omega)⟩
  obtain ⟨a, b, ha, hb, -, e1, e2, -, -⟩ := h1.2.2.2.1 i hi
  rw [e1, e2]
  exact ⟨inb_nI (by omega) (by omega), inb_nI (by omega) (by omega)⟩
theorem trn_col {own col ch : Int32} (h : ∀ v, v < 12 → colOK (at_ v)) (h1 : colOK own) (h2 : colOK col) : ∀ v, v < 12 → colOK (trn at_ own col ch n v) := by
  intro v hv
  unfold trn
  by_cases q : v < n ∧ bt ch v = true
  · rw [if_pos q]
    by_cases e : at_ v = own
    · rw [if_pos e]; exact h2
    · rw [if_neg e]; exact h1
  · rw [if_neg q]; exact h v hv
theorem p_turn (hF : 40 ^ 18 < F) (p1 p2 : Int32) (h : REL j n ka V c L near tail head pvs pw lvs lrs we ti al sh sd at_ hp hl nearM liM coM sdM tiM waM poM) : ∃ (r : Int32) (at' : Nat → Int32), m_CS_turn F (nI n) (nI ka) (nI V) near at_ p1 p2 = some (r, at') ∧ m_Mo_turn F th (nI n) (nI ka) (nI c) tr hp hl nearM at_ p1 p2 = some (r, 0, at') ∧ REL (j + 1) n ka V c L near tail head pvs pw lvs lrs we ti al sh sd at' hp hl nearM liM coM sdM tiM waM poM := by
  obtain ⟨h1, h2, h3, h4, h5, h6, h7, h8, h9, h10, h11, h12, h13, h14, h15, h16, h17, h18, h19⟩ := id h
  have hn := h1.1
  by_cases q : turnOK n at_ p1 p2
  · obtain ⟨i, k, hi, hk, rfl, rfl, q1, q2⟩ := q
    obtain ⟨⟨r, at'⟩, e1, ch, w1, w2⟩ := CS_turn_ok (F := F) (j := i) (c := k) (a := nI ka) (v := nI V) (at_ := at_) h1 hi hk rfl q1 q2 (by omega)
    obtain ⟨⟨r2, t2, at2⟩, e2, ch2, g1, g2⟩ := Mo_turn_ok (F := F) (j := i) (c := k) (t := th) (a := nI ka) (y := nI c) (z := tr) (e1 := hp) (e2 := hl) (at_ := at_) h1 h11 hi hk rfl q1 q2 (by omega)
    have e := chain_uniq w1 g1
    subst e
    have hM : M12 ch := by
      obtain ⟨wi, -, -, hb⟩ := w1
      exact M12_of (fun i hi1 hi2 => by
        cases hx : bt ch i with
        | false => rfl
        | true => have := hb i hi2 hx; omega)
    simp only [Prod.mk.injEq] at w2 g2
    obtain ⟨rfl, rfl⟩ := w2
    obtain ⟨rfl, rfl, rfl⟩ := g2
    rw [← bitc_M hM] at e2
    exact ⟨bitc ch, _, e1, e2, h1, by omega, h3, h4, h5, h6, h7, h8, h9, h10, h11, h12, h13, h14, h15, h16, trn_col h17 (h17 i (by omega)) (Or.inr ⟨k, hk, rfl⟩), h18, h19⟩
  · exact ⟨-1, at_, CS_turn_no hn q, Mo_turn_no hn q, REL_j h⟩
theorem p_told (hF : 40 ^ 18 < F) (p : Int32) (h : REL j n ka V c L near tail head pvs pw lvs lrs we ti al sh sd at_ hp hl nearM liM coM sdM tiM waM poM) : ∃ r : Int32, m_CS_told F (nI n) (nI ka) (nI V) near at_ p = some r ∧ m_Mo_told F th (nI n) (nI ka) (nI c) tr hp hl nearM at_ p = some (r, 0) := by
  obtain ⟨h1, h2, h3, h4, h5, h6, h7, h8, h9, h10, h11, h12, h13, h14, h15, h16, h17, h18, h19⟩ := id h
  have hn := h1.1
  by_cases e0 : p = 0
  · subst e0
    exact ⟨nI n, rfl, rfl⟩
  by_cases e1 : p = 1
  · subst e1
    exact ⟨nI ka, rfl, rfl⟩
  by_cases e2 : p = 2
  · subst e2
    refine ⟨nI (mostN near n), ?_, ?_⟩
    · unfold m_CS_told
      rw [if_neg (by decide), if_neg (by decide), if_pos rfl, gM_s (Net_mostNear_ok h1 (by omega))]
    · rw [Mo_told_2 hn (fun v hv => by rw [h11 v hv]; exact GR_M12 h1 (by omega)) (by omega), mostN_congr n h11]
  by_cases e3 : p = 3
  · subst e3
    refine ⟨nI (seenS n near n).2, ?_, ?_⟩
    · unfold m_CS_told
      rw [if_neg (by decide), if_neg (by decide), if_neg (by decide), if_pos rfl, gM_s (Net_countParts_ok h1 (by omega))]
    · unfold m_Mo_told
      rw [if_neg (by decide), if_neg (by decide), if_neg (by decide), if_pos rfl, gM_s (Mo_parts_ok h1 h11 (by omega))]
  by_cases e4 : p = 4
  · subst e4
    refine ⟨nI (popN (triN at_ n).toBitVec.toNat 12), ?_, Mo_told_4 hn (fun v hv => h17 v (by omega)) (by omega)⟩
    unfold m_CS_told
    rw [if_neg (by decide), if_neg (by decide), if_neg (by decide), if_neg (by decide), if_pos rfl, gM_s (CS_tri_ok hn (fun v hv => h17 v (by omega)) (by omega))]
  refine ⟨-1, ?_, ?_⟩
  · unfold m_CS_told
    rw [if_neg e0, if_neg e1, if_neg e2, if_neg e3, if_neg e4]
  · unfold m_Mo_told
    rw [if_neg e0, if_neg e1, if_neg e2, if_neg e3, if_neg e4]
theorem p_clear (hj : j ≤ 1000) (hF : 40 ^ 18 < F) (h : REL j n ka V c L near tail head pvs pw lvs lrs we ti al sh sd at_ hp hl nearM liM coM sdM tiM waM poM) : ∃ (near' ti' al' sh' sd' at' coM' sdM' tiM' : Nat → Int32), m_CS_clear F (nI n) (nI ka) (nI V) near (nI c) tr ti al sh sd at_ = some (nI 0, nI 0, nI (V + 1), near', nI 0, 0, ti', al', sh', sd', at') ∧ m_Mo_clear F th (nI n) (nI ka) (nI c) tr hp hl coM sdM tiM at_ = some (0, nI 0, nI 0, nI 0, 0, 0, 0, coM', sdM', tiM', at') ∧ REL (j + 1) 0 0 (V + 1) 0 L near' tail head pvs pw lvs lrs we ti' al' sh' sd' at' 0 0 nearM liM coM' sdM' tiM' waM poM := by
  obtain ⟨h1, h2, h3, h4, h5, h6, h7, h8, h9, h10, h11, h12, h13, h14, h15, h16, h17, h18, h19⟩ := id h
  have f12 : ∀ (x : Int32) (w : Nat → Int32) (v : Nat), v < 12 → fillA 12 x w v = x := fun x w v hv => if_pos hv
  have f40 : ∀ (x : Int32) (w : Nat → Int32) (v : Nat), v < 40 → fillA 40 x w v = x := fun x w v hv => if_pos hv
  refine ⟨fillA 12 0 near, fillA 12 (-1) ti, fillA 12 4095 al, fillA 12 (-1) sh, fillA 40 (-1) sd, fillA 12 (-1) at_, fillA 12 (-1) coM, fillA 40 (-1) sdM, fillA 12 (-1) tiM, ?_, Mo_clear_ok (by omega), GR_0 (fun v hv => f12 _ _ v hv), by omega, by omega, h4, seen_up h5, seen_up h6, fun e => absurd e (seen_ne h5 (by omega)), fun e => absurd e (seen_ne h6 (by omega)), fun v hv cc hc1 hc2 => ?_, fun i _ hi => f12 _ _ i hi, fun v hv => by omega, fun v hv => by omega, fun v hv => by rw [f12 _ _ v hv, f12 _ _ v hv], fun v hv => by omega, fun v _ hv => f40 _ _ v hv, fun v hv => by rw [f12 _ _ v hv, f12 _ _ v hv], fun v hv => by rw [f12 _ _ v hv]; exact Or.inl rfl, fun e => absurd rfl e, fun e => absurd rfl e⟩
  · rw [CS_clear_ok, nI_1]; rfl
  · rw [f12 _ _ v hv]
    have e : (4095 : Int32) = nI 4095 := by decide
    rw [e, bt_nI _ hc2]
    exact Nat.testBit_lt_two_pow (Nat.lt_of_lt_of_le (by decide : 4095 < 2 ^ 12) (Nat.pow_le_pow_right (by omega) hc1))
end PC
