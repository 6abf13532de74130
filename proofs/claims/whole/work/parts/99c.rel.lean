/-! the relation, and each call over it -/
def REL (j n ka V c L : Nat) (near tail head : Nat → Int32) (pvs : Int32) (pw : Nat → Int64) (lvs lrs : Int32) (we ti al sh sd at_ : Nat → Int32) (hp hl : Int32) (nearM liM coM sdM tiM : Nat → Int32) (waM poM : Nat → Int64) : Prop :=
  GR n ka near tail head ∧ V ≤ j ∧ c ≤ 12 ∧ (∃ e, e ≤ 12 ∧ L = 2 ^ e) ∧ seen V pvs ∧ seen V lvs ∧ (pvs = nI V → polC near n pw) ∧ LCI near n L (nI V) lvs lrs we ∧ hi12 al 12 ∧ (∀ i, n ≤ i → i < 12 → al i = 4095) ∧ (∀ v, v < n → nearM v = near v) ∧ (∀ v, v < n → liM v = al v) ∧ (∀ v, v < 12 → coM v = sh v) ∧ (∀ v, v < ka → sdM v = sd v) ∧ (∀ v, ka ≤ v → v < 40 → sdM v = -1) ∧ (∀ v, v < 12 → tiM v = ti v) ∧ (∀ v, v < 12 → colOK (at_ v)) ∧ (¬ hp = 0 → polOK nearM n poM) ∧ (¬ hl = 0 → waysOK nearM liM n waM)
section PC
variable {F j n ka V c L : Nat} {near tail head : Nat → Int32} {pvs : Int32} {pw : Nat → Int64} {lvs lrs : Int32} {we ti al sh sd at_ : Nat → Int32} {hp hl : Int32} {nearM liM coM sdM tiM : Nat → Int32} {waM poM : Nat → Int64} {th tr : Int32}
theorem REL_j (h : REL j n ka V c L near tail head pvs pw lvs lrs we ti al sh sd at_ hp hl nearM liM coM sdM tiM waM poM) : REL (j + 1) n ka V c L near tail head pvs pw lvs lrs we ti al sh sd at_ hp hl nearM liM coM sdM tiM waM poM := by
  obtain ⟨h1, h2, h3⟩ := h
  exact ⟨h1, by omega, h3⟩
theorem p_node (hj : j ≤ 1000) (h : REL j n ka V c L near tail head pvs pw lvs lrs we ti al sh sd at_ hp hl nearM liM coM sdM tiM waM poM) : ∃ (r : Int32) (n' V' : Nat) (hp' hl' : Int32) (nearM' liM' : Nat → Int32), m_CS_node F (nI n) (nI ka) (nI V) = some (r, nI n', nI V') ∧ m_Mo_node F th (nI n) (nI ka) (nI c) tr hp hl nearM liM = some (r, 0, nI n', hp', hl', nearM', liM') ∧ REL (j + 1) n' ka V' c L near tail head pvs pw lvs lrs we ti al sh sd at_ hp' hl' nearM' liM' coM sdM tiM waM poM := by
  have hG := h.1
  by_cases hn : n < 12
  · obtain ⟨h1, h2, h3, h4, h5, h6, h7, h8, h9, h10, h11, h12, h13, h14, h15, h16, h17, h18, h19⟩ := h
    refine ⟨nI n, n + 1, V + 1, 0, 0, upd nearM n 0, upd liM n 4095, ?_, Mo_node_lt hn, GR_node h1 hn, by omega, h3, h4, seen_up h5, seen_up h6, fun e => absurd e (seen_ne h5 (by omega)), fun e => absurd e (seen_ne h6 (by omega)), h9, fun i hi hi2 => h10 i (by omega) hi2, fun v hv => ?_, fun v hv => ?_, h13, h14, h15, h16, h17, fun e => absurd rfl e, fun e => absurd rfl e⟩
    · rw [CS_node_lt hn, nI_1]
    · by_cases e : v = n
      · subst e; rw [upd_same, GR_out h1 (Nat.le_refl _) hn]
      · rw [upd_ne e]; exact h11 v (by omega)
    · by_cases e : v = n
      · subst e; rw [upd_same, h10 v (Nat.le_refl _) hn]
      · rw [upd_ne e]; exact h12 v (by omega)
  · have e : n = 12 := by have := hG.1; omega
    subst e
    exact ⟨-1, 12, V, hp, hl, nearM, liM, CS_node_12, Mo_node_12, REL_j h⟩
theorem arcOK_nr {p1 p2 : Int32} (h : ∀ v, v < n → nearM v = near v) : arcOK n ka nearM p1 p2 ↔ arcOK n ka near p1 p2 := by
  unfold arcOK
  constructor
  · rintro ⟨a, b, ha, hb, h1, h2, h3, h4, h5⟩
    exact ⟨a, b, ha, hb, h1, h2, h3, by rw [← h a ha]; exact h4, h5⟩
  · rintro ⟨a, b, ha, hb, h1, h2, h3, h4, h5⟩
    exact ⟨a, b, ha, hb, h1, h2, h3, by rw [h a ha]; exact h4, h5⟩
theorem upd_eqv {f g : Nat → Int32} {k v : Nat} {x y : Int32} (h1 : x = y) (h2 : f v = g v) : upd f k x v = upd g k y v := by
  unfold upd
  by_cases e : v = k
  · rw [if_pos e, if_pos e, h1]
  · rw [if_neg e, if_neg e, h2]
theorem nearA_nr {a b v : Nat} (h : ∀ v, v < n → nearM v = near v) (ha : a < n) (hb : b < n) (hv : v < n) : nearA nearM a b v = nearA near a b v := by
  unfold nearA
  have e : ∀ v, v < n → upd nearM a ((nearM a) ||| ((1 : Int32) <<< (nI b &&& 31))) v = upd near a ((near a) ||| ((1 : Int32) <<< (nI b &&& 31))) v := fun v hv => upd_eqv (by rw [h a ha]) (h v hv)
  exact upd_eqv (by rw [e b hb]) (e v hv)
theorem nearD_nr {a b v : Nat} (h : ∀ v, v < n → nearM v = near v) (ha : a < n) (hb : b < n) (hv : v < n) : nearD nearM a b v = nearD near a b v := by
  unfold nearD
  have e : ∀ v, v < n → upd nearM a ((nearM a) &&& (((1 : Int32) <<< (nI b &&& 31)) ^^^ (-1))) v = upd near a ((near a) &&& (((1 : Int32) <<< (nI b &&& 31)) ^^^ (-1))) v := fun v hv => upd_eqv (by rw [h a ha]) (h v hv)
  exact upd_eqv (by rw [e b hb]) (e v hv)
theorem p_arc (hj : j ≤ 1000) (p1 p2 : Int32) (h : REL j n ka V c L near tail head pvs pw lvs lrs we ti al sh sd at_ hp hl nearM liM coM sdM tiM waM poM) : ∃ (r : Int32) (ka' V' : Nat) (near' tail' head' sd' : Nat → Int32) (hp' hl' : Int32) (nearM' : Nat → Int32), m_CS_arc F (nI n) (nI ka) (nI V) near tail head sd p1 p2 = some (r, nI ka', nI V', near', tail', head', sd') ∧ m_Mo_arc F th (nI n) (nI ka) (nI c) tr hp hl tail head nearM p1 p2 = some (r, 0, nI ka', hp', hl', tail', head', nearM') ∧ REL (j + 1) n ka' V' c L near' tail' head' pvs pw lvs lrs we ti al sh sd' at_ hp' hl' nearM' liM coM sdM tiM waM poM := by
  have hG := h.1
  obtain ⟨h1, h2, h3, h4, h5, h6, h7, h8, h9, h10, h11, h12, h13, h14, h15, h16, h17, h18, h19⟩ := id h
  by_cases q : arcOK n ka near p1 p2
  · obtain ⟨a, b, ha, hb, hab, rfl, rfl, hf, hk⟩ := id q
    refine ⟨nI ka, ka + 1, V + 1, nearA near a b, upd tail ka (nI a), upd head ka (nI b), upd sd ka (-1), 0, 0, nearA nearM a b, ?_, Mo_arc_ok hG.1 ha hb hab (by rw [h11 a ha]; exact hf) hk, GR_arc hG ha hb hab hf hk, by omega, h3, h4, seen_up h5, seen_up h6, fun e => absurd e (seen_ne h5 (by omega)), fun e => absurd e (seen_ne h6 (by omega)), h9, h10, fun v hv => nearA_nr h11 ha hb hv, h12, h13, fun v hv => ?_, fun v hv hv2 => h15 v (by omega) hv2, h16, h17, fun e => absurd rfl e, fun e => absurd rfl e⟩
    · rw [CS_arc_ok hG.1 ha hb hab hf hk, nI_1]
    · by_cases e : v = ka
      · subst e; rw [upd_same]; exact h15 v (Nat.le_refl _) (by omega)
      · rw [upd_ne e]; exact h14 v (by omega)
  · exact ⟨-1, ka, V, near, tail, head, sd, hp, hl, nearM, CS_arc_no hG.1 hG.2.1 q, Mo_arc_no hG.1 hG.2.1 (fun w => q ((arcOK_nr h11).mp w)), REL_j h⟩
theorem p_drop (hj : j ≤ 1000) (h : REL j n ka V c L near tail head pvs pw lvs lrs we ti al sh sd at_ hp hl nearM liM coM sdM tiM waM poM) : ∃ (r : Int32) (ka' V' : Nat) (near' : Nat → Int32) (hp' hl' : Int32) (nearM' sdM' : Nat → Int32), m_CS_drop F (nI n) (nI ka) (nI V) near tail head = some (r, nI ka', nI V', near') ∧ m_Mo_drop F th (nI n) (nI ka) (nI c) tr hp hl tail head nearM sdM = some (r, 0, nI ka', hp', hl', nearM', sdM') ∧ REL (j + 1) n ka' V' c L near' tail head pvs pw lvs lrs we ti al sh sd at_ hp' hl' nearM' liM coM sdM' tiM waM poM := by
  obtain ⟨h1, h2, h3, h4, h5, h6, h7, h8, h9, h10, h11, h12, h13, h14, h15, h16, h17, h18, h19⟩ := id h
  cases ka with
  | zero => exact ⟨0, 0, V, near, hp, hl, nearM, sdM, CS_drop_0, Mo_drop_0, REL_j h⟩
  | succ k =>
    obtain ⟨a, b, ha, hb, hab, e1, e2, -, -⟩ := h1.2.2.2.1 k (by omega)
    have hn := h1.1
    have hk := h1.2.1
    refine ⟨1, k, V + 1, nearD near a b, 0, 0, nearD nearM a b, upd sdM k (-1), ?_, Mo_drop_s (by omega) e1 e2 (by omega) (by omega), GR_drop h1 e1 e2 ha hb hab, by omega, h3, h4, seen_up h5, seen_up h6, fun e => absurd e (seen_ne h5 (by omega)), fun e => absurd e (seen_ne h6 (by omega)), h9, h10, fun v hv => nearD_nr h11 ha hb hv, h12, h13, fun v hv => ?_, fun v hv hv2 => ?_, h16, h17, fun e => absurd rfl e, fun e => absurd rfl e⟩
    · rw [CS_drop_s (by omega) e1 e2 (by omega) (by omega), nI_1]
    · rw [upd_ne (by omega)]; exact h14 v (by omega)
    · by_cases e : v = k
      · subst e; rw [upd_same]
      · rw [upd_ne e]; exact h15 v (by omega) hv2
theorem p_least (hF : 40 ^ 18 < F) {b1 b2 b3 b4 b5 b6 : Int32} {pt pn us rw_ mn : Nat → Int32} {fr : Nat → Nat → Int32} (h : REL j n ka V c L near tail head pvs pw lvs lrs we ti al sh sd at_ hp hl nearM liM coM sdM tiM waM poM) : ∃ (r b1' b2' b3' b4' b5' b6' : Int32) (pt' pn' us' sh' : Nat → Int32) (fr' : Nat → Nat → Int32) (coM' rw' mn' : Nat → Int32), m_CS_least F (nI n) (nI ka) (nI V) near b1 b2 b3 b4 b5 b6 pt pn us sh fr = some (r, b1', b2', b3', b4', b5', b6', pt', pn', us', sh', fr') ∧ m_Mo_least F th (nI n) (nI ka) (nI c) tr hp hl nearM coM rw_ mn = some (r, 0, coM', rw', mn') ∧ REL (j + 1) n ka V c L near tail head pvs pw lvs lrs we ti al sh' sd at_ hp hl nearM liM coM' sdM tiM waM poM := by
  obtain ⟨h1, h2, h3, h4, h5, h6, h7, h8, h9, h10, h11, h12, h13, h14, h15, h16, h17, h18, h19⟩ := id h
  obtain ⟨⟨r, b1', b2', b3', b4', b5', b6', pt', pn', us', sh', fr'⟩, e1, k, f, rfl, q1, q2⟩ := CS_least_ok (F := F) (b1 := nI ka) (b2 := nI V) (a1 := b1) (a2 := b2) (a3 := b3) (a4 := b4) (a5 := b5) (a6 := b6) (paint := pt) (pnear := pn) (uses := us) (shown := sh) (free := fr) h1 (by omega)
  obtain ⟨⟨r2, t2, coM', rw', mn'⟩, e2, k2, f2, g1, g2, g3, g4⟩ := Mo_least_ok (F := F) (n := n) (t := th) (a := nI ka) (y := nI c) (zz := tr) (e1 := hp) (e2 := hl) (near := nearM) (co := coM) (row := rw_) (many := mn) h1.1 hF
  dsimp only at q1 q2 g1 g2 g3 g4 e1
  obtain ⟨u1, u2⟩ := leastIs_uniq q1 (leastIs_nr h11 g3)
  subst u1
  subst g1; subst g2
  exact ⟨nI k, b1', b2', b3', b4', b5', b6', pt', pn', us', sh', fr', coM', rw', mn', e1, e2, h1, by omega, h3, h4, h5, h6, h7, h8, h9, h10, h11, h12, fun v hv => shows_eq u2 q2 g4 v hv, h14, h15, h16, h17, h18, h19⟩
theorem p_even (hF : 40 ^ 18 < F) {b1 b2 b3 b4 b5 b6 : Int32} {pt pn us rw_ mn : Nat → Int32} {fr : Nat → Nat → Int32} (p : Int32) (h : REL j n ka V c L near tail head pvs pw lvs lrs we ti al sh sd at_ hp hl nearM liM coM sdM tiM waM poM) : ∃ (r b1' b2' b3' b4' b5' b6' : Int32) (pt' pn' us' sh' : Nat → Int32) (fr' : Nat → Nat → Int32) (coM' rw' mn' : Nat → Int32), m_CS_even F (nI n) (nI ka) (nI V) near b1 b2 b3 b4 b5 b6 pt pn us sh fr p = some (r, b1', b2', b3', b4', b5', b6', pt', pn', us', sh', fr') ∧ m_Mo_even F th (nI n) (nI ka) (nI c) tr hp hl nearM coM rw_ mn p = some (r, 0, coM', rw', mn') ∧ REL (j + 1) n ka V c L near tail head pvs pw lvs lrs we ti al sh' sd at_ hp hl nearM liM coM' sdM tiM waM poM := by
  obtain ⟨h1, h2, h3, h4, h5, h6, h7, h8, h9, h10, h11, h12, h13, h14, h15, h16, h17, h18, h19⟩ := id h
  have no : p < 1 ∨ ¬ p ≤ 12 → _ := fun hp' => (⟨-1, b1, b2, b3, b4, b5, b6, pt, pn, us, sh, fr, coM, rw_, mn, CS_even_no hp', Mo_even_no hp', REL_j h⟩ : ∃ (r b1' b2' b3' b4' b5' b6' : Int32) (pt' pn' us' sh' : Nat → Int32) (fr' : Nat → Nat → Int32) (coM' rw' mn' : Nat → Int32), m_CS_even F (nI n) (nI ka) (nI V) near b1 b2 b3 b4 b5 b6 pt pn us sh fr p = some (r, b1', b2', b3', b4', b5', b6', pt', pn', us', sh', fr') ∧ m_Mo_even F th (nI n) (nI ka) (nI c) tr hp hl nearM coM rw_ mn p = some (r, 0, coM', rw', mn') ∧ REL (j + 1) n ka V c L near tail head pvs pw lvs lrs we ti al sh' sd at_ hp hl nearM liM coM' sdM tiM waM poM)
  rcases ix_cases p (n := 13) (by omega) with ⟨k, hk, rfl, -, -⟩ | ⟨-, hb⟩
  · by_cases hk0 : k = 0
    · subst hk0; exact no (Or.inl (by decide))
    · obtain ⟨⟨r, b1', b2', b3', b4', b5', b6', pt', pn', us', sh', fr'⟩, e1, q1⟩ := CS_even_ok (F := F) (k := k) (b1 := nI ka) (b2 := nI V) (a1 := b1) (a2 := b2) (a3 := b3) (a4 := b4) (a5 := b5) (a6 := b6) (paint := pt) (pnear := pn) (uses := us) (shown := sh) (free := fr) h1 (by omega) hk0 (by omega)
      obtain ⟨⟨r2, t2, coM', rw', mn'⟩, e2, g1, g2⟩ := Mo_even_ok (F := F) (n := n) (k := k) (t := th) (a := nI ka) (y := nI c) (zz := tr) (e1 := hp) (e2 := hl) (near := nearM) (co := coM) (row := rw_) (many := mn) h1.1 (by omega) hk0 hF
      dsimp only at q1 g1 g2
      obtain ⟨u1, u2⟩ := evenIs_two q1 (evenIs_nr h11 g2)
      subst u1; subst g1
      exact ⟨r2, b1', b2', b3', b4', b5', b6', pt', pn', us', sh', fr', coM', rw', mn', e1, e2, h1, by omega, h3, h4, h5, h6, h7, h8, h9, h10, h11, h12, u2, h14, h15, h16, h17, h18, h19⟩
  · refine no (hb.elim (fun q => Or.inl ?_) (fun q => Or.inr ?_))
    · exact Int32.lt_trans q (by decide)
    · intro w
      exact absurd (Int32.le_trans q w) (by decide)
theorem ix_or (p : Int32) {n : Nat} (hn : n < 2 ^ 31) : (∃ i, i < n ∧ p = nI i) ∨ (p < 0 ∨ nI n ≤ p) := by
  rcases ix_cases p (n := n) hn with ⟨k, hk, rfl, -, -⟩ | ⟨-, hb⟩
  · exact Or.inl ⟨k, hk, rfl⟩
  · exact Or.inr hb
theorem p_colour (p : Int32) (h : REL j n ka V c L near tail head pvs pw lvs lrs we ti al sh sd at_ hp hl nearM liM coM sdM tiM waM poM) : ∃ r : Int32, m_CS_colour F (nI n) (nI ka) (nI V) sh p = some r ∧ m_Mo_colour F th (nI n) (nI ka) (nI c) tr hp hl coM p = some (r, 0) := by
  obtain ⟨h1, h2, h3, h4, h5, h6, h7, h8, h9, h10, h11, h12, h13, h14, h15, h16, h17, h18, h19⟩ := id h
  have hn := h1.1
  rcases ix_or p (n := n) (by omega) with ⟨i, hi, rfl⟩ | q
  · exact ⟨sh i, CS_colour_t hn hi, by rw [Mo_colour_t hn hi, h13 i (by omega)]⟩
  · exact ⟨-1, CS_colour_f q, Mo_colour_f q⟩
theorem p_tint (p : Int32) (h : REL j n ka V c L near tail head pvs pw lvs lrs we ti al sh sd at_ hp hl nearM liM coM sdM tiM waM poM) : ∃ r : Int32, m_CS_tint F (nI n) (nI ka) (nI V) ti p = some r ∧ m_Mo_tint F th (nI n) (nI ka) (nI c) tr hp hl tiM p = some (r, 0) := by
  obtain ⟨h1, h2, h3, h4, h5, h6, h7, h8, h9, h10, h11, h12, h13, h14, h15, h16, h17, h18, h19⟩ := id h
  have hn := h1.1
  rcases ix_or p (n := n) (by omega) with ⟨i, hi, rfl⟩ | q
  · exact ⟨ti i, CS_tint_t hn hi, by rw [Mo_tint_t hn hi, h16 i (by omega)]⟩
  · exact ⟨-1, CS_tint_f q, Mo_tint_f q⟩
theorem p_tried (p : Int32) (h : REL j n ka V c L near tail head pvs pw lvs lrs we ti al sh sd at_ hp hl nearM liM coM sdM tiM waM poM) : ∃ r : Int32, m_CS_tried F (nI n) (nI ka) (nI V) at_ p = some r ∧ m_Mo_tried F th (nI n) (nI ka) (nI c) tr hp hl at_ p = some (r, 0) := by
  have hn := h.1.1
  rcases ix_or p (n := n) (by omega) with ⟨i, hi, rfl⟩ | q
  · exact ⟨at_ i, CS_tried_t hn hi, Mo_tried_t hn hi⟩
  · exact ⟨-1, CS_tried_f q, Mo_tried_f q⟩
theorem p_shade (p : Int32) (h : REL j n ka V c L near tail head pvs pw lvs lrs we ti al sh sd at_ hp hl nearM liM coM sdM tiM waM poM) : ∃ r : Int32, m_CS_shade F (nI n) (nI ka) (nI V) sd p = some r ∧ m_Mo_shade F th (nI n) (nI ka) (nI c) tr hp hl sdM p = some (r, 0) := by
  obtain ⟨h1, h2, h3, h4, h5, h6, h7, h8, h9, h10, h11, h12, h13, h14, h15, h16, h17, h18, h19⟩ := id h
  have hk := h1.2.1
  rcases ix_or p (n := ka) (by omega) with ⟨i, hi, rfl⟩ | q
  · exact ⟨sd i, CS_shade_t hk hi, by rw [Mo_shade_t hk hi, h14 i hi]⟩
  · exact ⟨-1, CS_shade_f q, Mo_shade_f q⟩
theorem p_taken {sq : Nat → Int32} (p : Int32) (h : REL j n ka V c L near tail head pvs pw lvs lrs we ti al sh sd at_ hp hl nearM liM coM sdM tiM waM poM) : ∃ r : Int32, m_CS_taken F (nI c) tr sq p = some r ∧ m_Mo_taken F th (nI n) (nI ka) (nI c) tr hp hl sq p = some (r, 0) := by
  have hc := h.2.2.1
  rcases ix_or p (n := c) (by omega) with ⟨i, hi, rfl⟩ | q
  · exact ⟨sq i, CS_taken_t hc hi, Mo_taken_t hc hi⟩
  · exact ⟨-1, CS_taken_f q, Mo_taken_f q⟩
theorem p_ways (hF : 40 ^ 18 < F) {nd ia : Nat → Int32} {fa pr nx sp : Nat → Int64} {M : Nat → Nat → Int32} (x : Int64) (h : REL j n ka V c L near tail head pvs pw lvs lrs we ti al sh sd at_ hp hl nearM liM coM sdM tiM waM poM) : ∃ (r : Int64) (nd' : Nat → Int32) (fa' pw' pr' : Nat → Int64) (M' : Nat → Nat → Int32) (hp' : Int32) (ia' : Nat → Int32) (nx' sp' poM' : Nat → Int64), m_CS_ways F (nI n) (nI ka) (nI V) near pvs nd fa pw pr M x = some (r, nI V, nd', fa', pw', pr', M') ∧ m_Mo_ways F th (nI n) (nI ka) (nI c) tr hp hl nearM ia nx sp poM x = some (r, 0, hp', ia', nx', sp', poM') ∧ REL (j + 1) n ka V c L near tail head (nI V) pw' lvs lrs we ti al sh sd at_ hp' hl nearM liM coM sdM tiM waM poM' := by
  obtain ⟨h1, h2, h3, h4, h5, h6, h7, h8, h9, h10, h11, h12, h13, h14, h15, h16, h17, h18, h19⟩ := id h
  have hn := h1.1
  have hp2 : 2 ^ n - 1 < 2 ^ n := by have : 1 ≤ 2 ^ n := Nat.one_le_two_pow; omega
  obtain ⟨⟨r, v', nd', fa', pw', pr', M'⟩, e1, q1, q2, q3⟩ := CS_ways_ok (F := F) (vs := pvs) (b1 := nI ka) (ver := nI V) (nd := nd) (fa := fa) (pw := pw) (pr := pr) (M := M) (x := x) h1 h7 hF
  obtain ⟨⟨r2, t2, hp', ia', nx', sp', poM'⟩, e2, g1, g2, g3, g4⟩ := Mo_ways_ok (F := F) (tt := th) (a := nI ka) (y := nI c) (zz := tr) (e1 := hp) (e2 := hl) (near := nearM) (ia := ia) (next := nx) (splits := sp) (powers := poM) (x := x) hn h18 (by omega)
  dsimp only at q1 q2 q3 g1 g2 g3 g4
  have er : r2 = r := by
    rw [g1, q1]
    exact horn_eq _ _ (fun i hi => by rw [pco_nr (by omega) hp2 (nr0_nr h11) i (by omega)])
  subst er; subst q2; subst g2
  exact ⟨r2, nd', fa', pw', pr', M', hp', ia', nx', sp', poM', e1, e2, h1, by omega, h3, h4, seen_self V, h6, fun _ => q3, h8, h9, h10, h11, h12, h13, h14, h15, h16, h17, fun _ => g4, h19⟩
theorem p_coef (hF : 40 ^ 18 < F) {nd ia : Nat → Int32} {fa pr nx sp : Nat → Int64} {M : Nat → Nat → Int32} (x : Int32) (h : REL j n ka V c L near tail head pvs pw lvs lrs we ti al sh sd at_ hp hl nearM liM coM sdM tiM waM poM) : ∃ (r : Int64) (nd' : Nat → Int32) (fa' pw' pr' : Nat → Int64) (M' : Nat → Nat → Int32) (hp' : Int32) (ia' : Nat → Int32) (nx' sp' poM' : Nat → Int64), m_CS_coefficient F (nI n) (nI ka) (nI V) near pvs nd fa pw pr M x = some (r, nI V, nd', fa', pw', pr', M') ∧ m_Mo_coefficient F th (nI n) (nI ka) (nI c) tr hp hl nearM ia nx sp poM x = some (r, 0, hp', ia', nx', sp', poM') ∧ REL (j + 1) n ka V c L near tail head (nI V) pw' lvs lrs we ti al sh sd at_ hp' hl nearM liM coM sdM tiM waM poM' := by
  obtain ⟨h1, h2, h3, h4, h5, h6, h7, h8, h9, h10, h11, h12, h13, h14, h15, h16, h17, h18, h19⟩ := id h
  have hn := h1.1
  have hp2 : 2 ^ n - 1 < 2 ^ n := by have : 1 ≤ 2 ^ n := Nat.one_le_two_pow; omega
  rcases ix_or x (n := n + 1) (by omega) with ⟨i, hi, rfl⟩ | q
  · obtain ⟨⟨r, v', nd', fa', pw', pr', M'⟩, e1, q1, q2, q3⟩ := CS_coef_ok (F := F) (i := i) (vs := pvs) (b1 := nI ka) (ver := nI V) (nd := nd) (fa := fa) (pw := pw) (pr := pr) (M := M) h1 (by omega) h7 hF
    obtain ⟨⟨r2, t2, hp', ia', nx', sp', poM'⟩, e2, g1, g2, g3, g4⟩ := Mo_coef_ok (F := F) (i := i) (tt := th) (a := nI ka) (y := nI c) (zz := tr) (e1 := hp) (e2 := hl) (near := nearM) (ia := ia) (next := nx) (splits := sp) (powers := poM) hn (by omega) h18 (by omega)
    dsimp only at q1 q2 q3 g1 g2 g3 g4
    have er : r2 = r := by rw [g1, q1, pco_nr (by omega) hp2 (nr0_nr h11) i (by omega)]
    subst er; subst q2; subst g2
    exact ⟨r2, nd', fa', pw', pr', M', hp', ia', nx', sp', poM', e1, e2, h1, by omega, h3, h4, seen_self V, h6, fun _ => q3, h8, h9, h10, h11, h12, h13, h14, h15, h16, h17, fun _ => g4, h19⟩
  · have q' : x < 0 ∨ nI n < x := q.elim Or.inl (fun w => Or.inr (Int32.lt_of_lt_of_le (nI_lt (by omega) (by omega)) w))
    obtain ⟨⟨r, v', nd', fa', pw', pr', M'⟩, e1, q1, q2, q3⟩ := CS_coef_no (F := F) (p := x) (vs := pvs) (b1 := nI ka) (ver := nI V) (nd := nd) (fa := fa) (pw := pw) (pr := pr) (M := M) h1 q' h7 hF
    dsimp only at q1 q2 q3
    subst q1; subst q2
    exact ⟨0, nd', fa', pw', pr', M', hp, ia, nx, sp, poM, e1, Mo_coef_no (q'.elim Or.inl (fun w => Or.inr (Int32.not_le.mpr w))), h1, by omega, h3, h4, seen_self V, h6, fun _ => q3, h8, h9, h10, h11, h12, h13, h14, h15, h16, h17, h18, h19⟩
theorem p_list (p1 p2 : Int32) (h : REL j n ka V c L near tail head pvs pw lvs lrs we ti al sh sd at_ hp hl nearM liM coM sdM tiM waM poM) : ∃ (r : Int32) (al' : Nat → Int32) (hp' hl' : Int32) (liM' : Nat → Int32), m_CS_list F (nI n) (nI ka) (nI V) al p1 p2 = some (r, al') ∧ m_Mo_list F th (nI n) (nI ka) (nI c) tr hp hl liM p1 p2 = some (r, 0, hp', hl', liM') ∧ REL (j + 1) n ka V c L near tail head pvs pw lvs lrs we ti al' sh sd at_ hp' hl' nearM liM' coM sdM tiM waM poM := by
  obtain ⟨h1, h2, h3, h4, h5, h6, h7, h8, h9, h10, h11, h12, h13, h14, h15, h16, h17, h18, h19⟩ := id h
  have hn := h1.1
  by_cases q : (∃ i, i < n ∧ p1 = nI i) ∧ ∃ k, k < 4096 ∧ p2 = nI k
  · obtain ⟨⟨i, hi, rfl⟩, k, hk, rfl⟩ := q
    refine ⟨1, upd al i (nI k), 0, 0, upd liM i (nI k), CS_list_ok hn hi hk, Mo_list_ok hn hi hk, h1, by omega, h3, h4, h5, h6, h7, h8, fun v hv cc hc1 hc2 => ?_, fun v hv hv2 => ?_, h11, fun v hv => upd_eqv rfl (h12 v hv), h13, h14, h15, h16, h17, fun e => absurd rfl e, fun e => absurd rfl e⟩
    · by_cases e : v = i
      · subst e; rw [upd_same, bt_nI _ hc2]
        exact Nat.testBit_lt_two_pow (Nat.lt_of_lt_of_le hk (Nat.pow_le_pow_right (by omega) hc1 : 2 ^ 12 ≤ 2 ^ cc))
      · rw [upd_ne e]; exact h9 v hv cc hc1 hc2
    · rw [upd_ne (by omega)]; exact h10 v hv hv2
  · exact ⟨0, al, hp, hl, liM, CS_list_no hn q, Mo_list_no hn q, REL_j h⟩
theorem p_lists (hF : 40 ^ 18 < F) {b1 b2 b3 b4 b5 b6 : Int32} {pt pn us ia rw_ can cou : Nat → Int32} {fr : Nat → Nat → Int32} (h : REL j n ka V c L near tail head pvs pw lvs lrs we ti al sh sd at_ hp hl nearM liM coM sdM tiM waM poM) : ∃ (r b1' b2' b3' b4' b5' b6' : Int32) (pt' pn' us' sh' : Nat → Int32) (fr' : Nat → Nat → Int32) (coM' ia' rw' can' cou' : Nat → Int32), m_CS_lists F (nI n) (nI ka) (nI V) near b1 b2 b3 b4 b5 b6 pt pn us al sh fr = some (r, b1', b2', b3', b4', b5', b6', pt', pn', us', sh', fr') ∧ m_Mo_lists F th (nI n) (nI ka) (nI c) tr hp hl nearM liM coM ia rw_ can cou = some (r, 0, coM', ia', rw', can', cou') ∧ REL (j + 1) n ka V c L near tail head pvs pw lvs lrs we ti al sh' sd at_ hp hl nearM liM coM' sdM tiM waM poM := by
  obtain ⟨h1, h2, h3, h4, h5, h6, h7, h8, h9, h10, h11, h12, h13, h14, h15, h16, h17, h18, h19⟩ := id h
  have hn := h1.1
  obtain ⟨⟨r, b1', b2', b3', b4', b5', b6', pt', pn', us', sh', fr'⟩, e1, q1⟩ := CS_lists_ok (F := F) (b1 := nI ka) (b2 := nI V) (a1 := b1) (a2 := b2) (a3 := b3) (a4 := b4) (a5 := b5) (a6 := b6) (paint := pt) (pnear := pn) (uses := us) (al := al) (shown := sh) (free := fr) h1 (fun i hi => h9 i (by omega)) (by omega)
  obtain ⟨⟨r2, t2, coM', ia', rw', can', cou'⟩, e2, g1, g2⟩ := Mo_lists_ok2 (F := F) (n := n) (tt := th) (a := nI ka) (y := nI c) (zz := tr) (e1 := hp) (e2 := hl) (near := nearM) (lists := liM) (co := coM) (ia := ia) (row := rw_) (can := can) (could := cou) hn (fun i j hi hj w => by rw [h11 j hj]; exact GR_sym' h1 i j hi hj (by rw [← h11 i hi]; exact w)) (fun i hi w => GR_irr h1 i hi (by rw [← h11 i hi]; exact w)) (by omega)
  dsimp only at q1 g1 g2
  obtain ⟨u1, u2⟩ := listsIs_two q1 (listsIs_nr h11 h12 g2)
  subst u1; subst g1
  exact ⟨r2, b1', b2', b3', b4', b5', b6', pt', pn', us', sh', fr', coM', ia', rw', can', cou', e1, e2, h1, by omega, h3, h4, h5, h6, h7, h8, h9, h10, h11, h12, u2, h14, h15, h16, h17, h18, h19⟩
theorem p_listed (hj : j ≤ 1000) (hF : 40 ^ 18 < F) {r0 : Int32} {op cl co ga ia : Nat → Int32} {su nx : Nat → Int64} (h : REL j n ka V c L near tail head pvs pw lvs lrs we ti al sh sd at_ hp hl nearM liM coM sdM tiM waM poM) : ∃ (r : Int64) (L' : Nat) (r0' lvs' lrs' : Int32) (op' cl' we' co' ga' : Nat → Int32) (su' : Nat → Int64) (hl' : Int32) (ia' : Nat → Int32) (waM' nx' : Nat → Int64), m_CS_listed F (nI n) (nI ka) (nI V) near r0 lvs lrs op L cl L we L co L ga L su al = some (r, r0', lvs', lrs', op', L', cl', L', we', L', co', L', ga', L', su') ∧ m_Mo_listed F th (nI n) (nI ka) (nI c) tr hp hl nearM liM ia waM nx = some (r, 0, hl', ia', waM', nx') ∧ (L' = L ∨ (L < 2 ^ n ∧ L' = 2 ^ n)) ∧ REL (j + 1) n ka V c L' near tail head pvs pw lvs' lrs' we' ti al sh sd at_ hp hl' nearM liM coM sdM tiM waM' poM := by
  obtain ⟨h1, h2, h3, h4, h5, h6, h7, h8, h9, h10, h11, h12, h13, h14, h15, h16, h17, h18, h19⟩ := id h
  have hn := h1.1
  obtain ⟨e, he, hL⟩ := h4
  have hp2 : 2 ^ n - 1 < 2 ^ n := by have : 1 ≤ 2 ^ n := Nat.one_le_two_pow; omega
  have hL2 : L ≤ 4096 := by rw [hL]; exact (Nat.pow_le_pow_right (by omega) he : 2 ^ e ≤ 2 ^ 12)
  obtain ⟨⟨r, rr⟩, e1, q1, L', q2, r0', lvs', lrs', op', cl', we', co', ga', su', q3, q4, q5⟩ := CS_listed_ok2 (F := F) (r0 := r0) (vs := lvs) (rs := lrs) (b1 := nI ka) (V := V) (op := op) (cl := cl) (we := we) (co := co) (ga := ga) (al := al) (su := su) h1 (fun i hi => h9 i (by omega)) (by omega) (by omega) h8 h6 (by omega)
  obtain ⟨⟨r2, t2, hl', ia', waM', nx'⟩, e2, g1, g2, g3, g4⟩ := Mo_listed_ok (F := F) (tt := th) (a := nI ka) (y := nI c) (zz := tr) (e1 := hp) (e2 := hl) (near := nearM) (lists := liM) (ia := ia) (ways := waM) (next := nx) hn h19 (by omega)
  dsimp only at q1 q3 g1 g2 g3 g4
  have er : r2 = r := by rw [g1, q1, wy_both h11 h12 hp2]
  subst er; subst q3; subst g2
  refine ⟨r2, L', r0', lvs', lrs', op', cl', we', co', ga', su', hl', ia', waM', nx', e1, e2, q2, h1, by omega, h3, ?_, h5, q5, h7, q4, h9, h10, h11, h12, h13, h14, h15, h16, h17, h18, fun _ => g4⟩
  rcases q2 with rfl | ⟨-, rfl⟩
  · exact ⟨e, he, hL⟩
  · exact ⟨n, hn, rfl⟩
end PC
