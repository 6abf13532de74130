/-! PURE, 3: the calls without loops, on both sides -/
theorem Net_isNode_t {F n j : Nat} {a v : Int32} (hn : n ≤ 12) (hj : j < n) : m_Net_isNode F (nI n) a v (nI j) = some 1 := by
  unfold m_Net_isNode
  rw [if_neg (nI_pos (by omega)), if_neg (nI_ge hj (by omega))]
theorem Net_isNode_f {F n : Nat} {a v p : Int32} (h : p < 0 ∨ nI n ≤ p) : m_Net_isNode F (nI n) a v p = some 0 := by
  unfold m_Net_isNode
  by_cases h1 : p < 0
  · rw [if_pos h1]
  · rw [if_neg h1, if_pos (h.resolve_left h1)]
theorem Mo_isNode_t {F n j : Nat} {t a k b c d : Int32} (hn : n ≤ 12) (hj : j < n) : m_Mo_isNode F t (nI n) a k b c d (nI j) = some 1 := by
  unfold m_Mo_isNode
  rw [if_neg (nI_pos (by omega)), if_neg (nI_ge hj (by omega))]
theorem Mo_isNode_f {F n : Nat} {t a k b c d p : Int32} (h : p < 0 ∨ nI n ≤ p) : m_Mo_isNode F t (nI n) a k b c d p = some 0 := by
  unfold m_Mo_isNode
  by_cases h1 : p < 0
  · rw [if_pos h1]
  · rw [if_neg h1, if_pos (h.resolve_left h1)]
theorem CS_node_lt {F n : Nat} {a v : Int32} (hn : n < 12) : m_CS_node F (nI n) a v = some (nI n, nI (n + 1), v + 1) := by
  unfold m_CS_node
  rw [if_neg (show ¬ (12 : Int32) ≤ nI n from nI_ge (b := 12) hn (by omega))]
  unfold m_Net_addNode
  simp only [gB_eq, nI_1]
  rfl
theorem CS_node_12 {F : Nat} {a v : Int32} : m_CS_node F (nI 12) a v = some (-1, nI 12, v) := by
  unfold m_CS_node
  rw [if_pos (show (12 : Int32) ≤ nI 12 by decide)]
theorem Mo_node_lt {F n : Nat} {t a k b c d : Int32} {near lists : Nat → Int32} (hn : n < 12) : m_Mo_node F t (nI n) a k b c d near lists = some (nI n, 0, nI (n + 1), 0, 0, upd near n 0, upd lists n 4095) := by
  unfold m_Mo_node
  rw [if_neg (show ¬ nI n = (12 : Int32) from fun q => by have := nI_inj (b := 12) (by omega) (by omega) q; omega)]
  unfold m_Mo_changed
  rw [gM_s rfl]
  try dsimp only
  rw [gC_t (inb_nI hn (by omega)), gC_t (inb_nI hn (by omega)), gB_eq, nI_clamp (by omega), nI_1, nI_pred]
theorem Mo_node_12 {F : Nat} {t a k b c d : Int32} {near lists : Nat → Int32} : m_Mo_node F t (nI 12) a k b c d near lists = some (-1, 0, nI 12, c, d, near, lists) := by
  unfold m_Mo_node
  rw [if_pos (show nI 12 = (12 : Int32) from rfl)]
/-- arc: what refuses it -/
def arcOK (n k : Nat) (near : Nat → Int32) (p1 p2 : Int32) : Prop := ∃ a b, a < n ∧ b < n ∧ a ≠ b ∧ p1 = nI a ∧ p2 = nI b ∧ bt (near a) b = false ∧ k < 40
theorem arc_cases (n k : Nat) (near : Nat → Int32) (p1 p2 : Int32) (hn : n ≤ 12) (hk : k ≤ 40) : arcOK n k near p1 p2 ∨ (p1 < 0 ∨ nI n ≤ p1) ∨ ∃ a, a < n ∧ p1 = nI a ∧ ((p2 < 0 ∨ nI n ≤ p2) ∨ ∃ b, b < n ∧ p2 = nI b ∧ (a = b ∨ (a ≠ b ∧ (bt (near a) b = true ∨ (bt (near a) b = false ∧ k = 40))))) := by
  rcases ix_cases p1 (n := n) (by omega) with ⟨a, ha, rfl, -, -⟩ | ⟨-, h⟩
  · rcases ix_cases p2 (n := n) (by omega) with ⟨b, hb, rfl, -, -⟩ | ⟨-, h⟩
    · by_cases hab : a = b
      · exact Or.inr (Or.inr ⟨a, ha, rfl, Or.inr ⟨b, hb, rfl, Or.inl hab⟩⟩)
      · cases hbt : bt (near a) b with
        | true => exact Or.inr (Or.inr ⟨a, ha, rfl, Or.inr ⟨b, hb, rfl, Or.inr ⟨hab, Or.inl hbt⟩⟩⟩)
        | false =>
          by_cases h40 : k = 40
          · exact Or.inr (Or.inr ⟨a, ha, rfl, Or.inr ⟨b, hb, rfl, Or.inr ⟨hab, Or.inr ⟨hbt, h40⟩⟩⟩⟩)
          · exact Or.inl ⟨a, b, ha, hb, hab, rfl, rfl, hbt, by omega⟩
    · exact Or.inr (Or.inr ⟨a, ha, rfl, Or.inl h⟩)
  · exact Or.inr (Or.inl h)
theorem bit_one (x : Int32) {v : Nat} (hv : v < 32) : ((x >>> (nI v &&& 31)) &&& 1) = 1 ↔ bt x v = true := by
  constructor
  · intro h
    cases hb : bt x v with
    | true => rfl
    | false => rw [(b_test x hv).mpr hb] at h; exact absurd h (by decide)
  · intro h
    apply b_ext
    intro i hi
    rw [b_and, b_1 i hi]
    by_cases h0 : i = 0
    · subst h0; rw [b_sshr v hv x (by omega)]; simp [hv, h]
    · simp [h0]
theorem ne_nI {a b : Nat} (ha : a < 2 ^ 31) (hb : b < 2 ^ 31) (h : a ≠ b) : ¬ nI a = nI b := fun q => h (nI_inj ha hb q)
theorem CS_arc_ok {F n k a b : Nat} {v : Int32} {near tail head shades : Nat → Int32} (hn : n ≤ 12) (ha : a < n) (hb : b < n) (hab : a ≠ b) (hf : bt (near a) b = false) (hk : k < 40) : m_CS_arc F (nI n) (nI k) v near tail head shades (nI a) (nI b) = some (nI k, nI (k + 1), v + 1, nearA near a b, upd tail k (nI a), upd head k (nI b), upd shades k (-1)) := by
  unfold m_CS_arc
  have e : m_Net_mayJoin F (nI n) (nI k) v near (nI a) (nI b) = some 1 := by
    unfold m_Net_mayJoin
    rw [gM_s (Net_isNode_t hn ha)]
    try dsimp only
    rw [if_neg (by decide), gM_s (Net_isNode_t hn hb)]
    try dsimp only
    rw [if_neg (by decide), if_neg (ne_nI (by omega) (by omega) hab), gC_t (inb_nI (by omega) (by omega)), nI_clamp (by omega), if_pos ((b_test _ (by omega)).mpr hf), if_neg (show ¬ (40 : Int32) ≤ nI k from nI_ge (b := 40) hk (by omega))]
  rw [gM_s e]
  try dsimp only
  rw [if_neg (by decide), gC_t (inb_nI hk (by omega))]
  have e2 : m_Net_join F (nI n) (nI k) v near tail head (nI a) (nI b) = some (nI k, nI (k + 1), v + 1, nearA near a b, upd tail k (nI a), upd head k (nI b)) := by
    unfold m_Net_join
    simp only [gB_eq, gC_t (inb_nI (show a < 12 by omega) (by omega)), gC_t (inb_nI (show b < 12 by omega) (by omega)), gC_t (inb_nI hk (by omega)), nI_clamp (show a < 2 ^ 31 by omega), nI_clamp (show b < 2 ^ 31 by omega), nI_clamp (show k < 2 ^ 31 by omega), nI_1]
    rfl
  rw [gM_s e2]
  try dsimp only
  rw [nI_clamp (by omega)]
theorem mayJoin_no {F n k : Nat} {v p1 p2 : Int32} {near : Nat → Int32} (hn : n ≤ 12) (hk : k ≤ 40) (h : ¬ arcOK n k near p1 p2) : m_Net_mayJoin F (nI n) (nI k) v near p1 p2 = some 0 := by
  unfold m_Net_mayJoin
  rcases arc_cases n k near p1 p2 hn hk with h1 | h1 | ⟨a, ha, rfl, h1⟩
  · exact absurd h1 h
  · rw [gM_s (Net_isNode_f h1)]; rfl
  · rw [gM_s (Net_isNode_t hn ha)]
    try dsimp only
    rw [if_neg (by decide)]
    rcases h1 with h1 | ⟨b, hb, rfl, h1⟩
    · rw [gM_s (Net_isNode_f h1)]; rfl
    · rw [gM_s (Net_isNode_t hn hb)]
      try dsimp only
      rw [if_neg (by decide)]
      rcases h1 with rfl | ⟨hab, h1⟩
      · rw [if_pos rfl]
      · rw [if_neg (ne_nI (by omega) (by omega) hab), gC_t (inb_nI (by omega) (by omega)), nI_clamp (by omega)]
        rcases h1 with h1 | ⟨h1, rfl⟩
        · rw [if_neg (fun q => by rw [(b_test _ (by omega)).mp q] at h1; cases h1)]
        · rw [if_pos ((b_test _ (by omega)).mpr h1), if_pos (show (40 : Int32) ≤ nI 40 by decide)]
theorem CS_arc_no {F n k : Nat} {v p1 p2 : Int32} {near tail head shades : Nat → Int32} (hn : n ≤ 12) (hk : k ≤ 40) (h : ¬ arcOK n k near p1 p2) : m_CS_arc F (nI n) (nI k) v near tail head shades p1 p2 = some (-1, nI k, v, near, tail, head, shades) := by
  unfold m_CS_arc
  rw [gM_s (mayJoin_no hn hk h)]
  rfl
theorem Mo_arc_ok {F n k a b : Nat} {t y z c d : Int32} {fr to near : Nat → Int32} (hn : n ≤ 12) (ha : a < n) (hb : b < n) (hab : a ≠ b) (hf : bt (near a) b = false) (hk : k < 40) : m_Mo_arc F t (nI n) (nI k) y z c d fr to near (nI a) (nI b) = some (nI k, 0, nI (k + 1), 0, 0, upd fr k (nI a), upd to k (nI b), nearA near a b) := by
  unfold m_Mo_arc
  rw [gM_s (Mo_isNode_t hn ha)]
  try dsimp only
  rw [if_neg (by decide), gM_s (Mo_isNode_t hn hb)]
  try dsimp only
  rw [if_neg (by decide), if_neg (ne_nI (by omega) (by omega) hab), gC_t (inb_nI (by omega) (by omega)), nI_clamp (by omega), if_neg (fun q => by rw [(bit_one _ (by omega)).mp q] at hf; cases hf), if_neg (show ¬ nI k = (40 : Int32) from ne_nI (b := 40) (by omega) (by omega) (by omega))]
  unfold m_Mo_changed
  rw [gM_s rfl]
  simp only [gB_eq, gC_t (inb_nI (show a < 12 by omega) (by omega)), gC_t (inb_nI (show b < 12 by omega) (by omega)), gC_t (inb_nI hk (by omega)), nI_clamp (show b < 2 ^ 31 by omega), nI_clamp (show k < 2 ^ 31 by omega), nI_1, nI_pred]
  rfl
theorem Mo_arc_no {F n k : Nat} {t y z c d p1 p2 : Int32} {fr to near : Nat → Int32} (hn : n ≤ 12) (hk : k ≤ 40) (h : ¬ arcOK n k near p1 p2) : m_Mo_arc F t (nI n) (nI k) y z c d fr to near p1 p2 = some (-1, 0, nI k, c, d, fr, to, near) := by
  unfold m_Mo_arc
  rcases arc_cases n k near p1 p2 hn hk with h1 | h1 | ⟨a, ha, rfl, h1⟩
  · exact absurd h1 h
  · rw [gM_s (Mo_isNode_f h1)]; rfl
  · rw [gM_s (Mo_isNode_t hn ha)]
    try dsimp only
    rw [if_neg (by decide)]
    rcases h1 with h1 | ⟨b, hb, rfl, h1⟩
    · rw [gM_s (Mo_isNode_f h1)]; rfl
    · rw [gM_s (Mo_isNode_t hn hb)]
      try dsimp only
      rw [if_neg (by decide)]
      rcases h1 with rfl | ⟨hab, h1⟩
      · rw [if_pos rfl]
      · rw [if_neg (ne_nI (by omega) (by omega) hab), gC_t (inb_nI (by omega) (by omega)), nI_clamp (by omega)]
        rcases h1 with h1 | ⟨h1, rfl⟩
        · rw [if_pos ((bit_one _ (by omega)).mpr h1)]
        · rw [if_neg (fun q => by rw [(bit_one _ (by omega)).mp q] at h1; cases h1), if_pos (show nI 40 = (40 : Int32) from rfl)]
theorem CS_drop_0 {F : Nat} {n v : Int32} {near tail head : Nat → Int32} : m_CS_drop F n (nI 0) v near tail head = some (0, nI 0, v, near) := by
  unfold m_CS_drop m_Net_cutLast
  rw [if_pos (show nI 0 = (0 : Int32) from rfl)]
  rfl
theorem CS_drop_s {F k a b : Nat} {n v : Int32} {near tail head : Nat → Int32} (hk : k < 40) (ha : tail k = nI a) (hb : head k = nI b) (ha2 : a < 12) (hb2 : b < 12) : m_CS_drop F n (nI (k + 1)) v near tail head = some (1, nI k, v + 1, nearD near a b) := by
  unfold m_CS_drop m_Net_cutLast
  rw [if_neg (show ¬ nI (k + 1) = (0 : Int32) from ne_nI (b := 0) (by omega) (by omega) (by omega))]
  simp only [gB_eq, nI_pred, gC_t (inb_nI hk (by omega)), nI_clamp (show k < 2 ^ 31 by omega), ha, hb, gC_t (inb_nI ha2 (by omega)), gC_t (inb_nI hb2 (by omega)), nI_clamp (show a < 2 ^ 31 by omega), nI_clamp (show b < 2 ^ 31 by omega)]
  rfl
theorem Mo_drop_0 {F : Nat} {t n y z c d : Int32} {fr to near shades : Nat → Int32} : m_Mo_drop F t n (nI 0) y z c d fr to near shades = some (0, 0, nI 0, c, d, near, shades) := by
  unfold m_Mo_drop
  rw [if_pos (show nI 0 = (0 : Int32) from rfl)]
theorem Mo_drop_s {F k a b : Nat} {t n y z c d : Int32} {fr to near shades : Nat → Int32} (hk : k < 40) (ha : fr k = nI a) (hb : to k = nI b) (ha2 : a < 12) (hb2 : b < 12) : m_Mo_drop F t n (nI (k + 1)) y z c d fr to near shades = some (1, 0, nI k, 0, 0, nearD near a b, upd shades k (-1)) := by
  unfold m_Mo_drop m_Mo_changed
  rw [if_neg (show ¬ nI (k + 1) = (0 : Int32) from ne_nI (b := 0) (by omega) (by omega) (by omega)), gM_s rfl]
  simp only [gB_eq, nI_pred, gC_t (inb_nI hk (by omega)), nI_clamp (show k < 2 ^ 31 by omega), ha, hb, gC_t (inb_nI ha2 (by omega)), gC_t (inb_nI hb2 (by omega)), nI_clamp (show a < 2 ^ 31 by omega), nI_clamp (show b < 2 ^ 31 by omega)]
  rfl
theorem CS_colour_t {F n j : Nat} {a v : Int32} {sh : Nat → Int32} (hn : n ≤ 12) (hj : j < n) : m_CS_colour F (nI n) a v sh (nI j) = some (sh j) := by
  unfold m_CS_colour
  rw [gM_s (Net_isNode_t hn hj), if_neg (by decide), gC_t (inb_nI (by omega) (by omega)), nI_clamp (by omega)]
theorem CS_colour_f {F n : Nat} {a v p : Int32} {sh : Nat → Int32} (h : p < 0 ∨ nI n ≤ p) : m_CS_colour F (nI n) a v sh p = some (-1) := by
  unfold m_CS_colour
  rw [gM_s (Net_isNode_f h)]; rfl
theorem Mo_colour_t {F n j : Nat} {t a y z c d : Int32} {sh : Nat → Int32} (hn : n ≤ 12) (hj : j < n) : m_Mo_colour F t (nI n) a y z c d sh (nI j) = some (sh j, 0) := by
  unfold m_Mo_colour
  rw [gM_s (Mo_isNode_t hn hj), if_neg (by decide), gC_t (inb_nI (by omega) (by omega)), nI_clamp (by omega)]
theorem Mo_colour_f {F n : Nat} {t a y z c d p : Int32} {sh : Nat → Int32} (h : p < 0 ∨ nI n ≤ p) : m_Mo_colour F t (nI n) a y z c d sh p = some (-1, 0) := by
  unfold m_Mo_colour
  rw [gM_s (Mo_isNode_f h)]; rfl
theorem CS_tint_t {F n j : Nat} {a v : Int32} {sh : Nat → Int32} (hn : n ≤ 12) (hj : j < n) : m_CS_tint F (nI n) a v sh (nI j) = some (sh j) := by
  unfold m_CS_tint
  rw [gM_s (Net_isNode_t hn hj), if_neg (by decide), gC_t (inb_nI (by omega) (by omega)), nI_clamp (by omega)]
theorem CS_tint_f {F n : Nat} {a v p : Int32} {sh : Nat → Int32} (h : p < 0 ∨ nI n ≤ p) : m_CS_tint F (nI n) a v sh p = some (-1) := by
  unfold m_CS_tint
  rw [gM_s (Net_isNode_f h)]; rfl
theorem Mo_tint_t {F n j : Nat} {t a y z c d : Int32} {sh : Nat → Int32} (hn : n ≤ 12) (hj : j < n) : m_Mo_tint F t (nI n) a y z c d sh (nI j) = some (sh j, 0) := by
  unfold m_Mo_tint
  rw [gM_s (Mo_isNode_t hn hj), if_neg (by decide), gC_t (inb_nI (by omega) (by omega)), nI_clamp (by omega)]
theorem Mo_tint_f {F n : Nat} {t a y z c d p : Int32} {sh : Nat → Int32} (h : p < 0 ∨ nI n ≤ p) : m_Mo_tint F t (nI n) a y z c d sh p = some (-1, 0) := by
  unfold m_Mo_tint
  rw [gM_s (Mo_isNode_f h)]; rfl
theorem CS_tried_t {F n j : Nat} {a v : Int32} {sh : Nat → Int32} (hn : n ≤ 12) (hj : j < n) : m_CS_tried F (nI n) a v sh (nI j) = some (sh j) := by
  unfold m_CS_tried
  rw [gM_s (Net_isNode_t hn hj), if_neg (by decide), gC_t (inb_nI (by omega) (by omega)), nI_clamp (by omega)]
theorem CS_tried_f {F n : Nat} {a v p : Int32} {sh : Nat → Int32} (h : p < 0 ∨ nI n ≤ p) : m_CS_tried F (nI n) a v sh p = some (-1) := by
  unfold m_CS_tried
  rw [gM_s (Net_isNode_f h)]; rfl
theorem Mo_tried_t {F n j : Nat} {t a y z c d : Int32} {sh : Nat → Int32} (hn : n ≤ 12) (hj : j < n) : m_Mo_tried F t (nI n) a y z c d sh (nI j) = some (sh j, 0) := by
  unfold m_Mo_tried
  rw [gM_s (Mo_isNode_t hn hj), if_neg (by decide), gC_t (inb_nI (by omega) (by omega)), nI_clamp (by omega)]
theorem Mo_tried_f {F n : Nat} {t a y z c d p : Int32} {sh : Nat → Int32} (h : p < 0 ∨ nI n ≤ p) : m_Mo_tried F t (nI n) a y z c d sh p = some (-1, 0) := by
  unfold m_Mo_tried
  rw [gM_s (Mo_isNode_f h)]; rfl
theorem CS_shade_t {F k j : Nat} {n v : Int32} {sh : Nat → Int32} (hk : k ≤ 40) (hj : j < k) : m_CS_shade F n (nI k) v sh (nI j) = some (sh j) := by
  unfold m_CS_shade
  rw [if_neg (nI_pos (by omega)), if_neg (nI_ge hj (by omega)), gC_t (inb_nI (by omega) (by omega)), nI_clamp (by omega)]
theorem CS_shade_f {F k : Nat} {n v p : Int32} {sh : Nat → Int32} (h : p < 0 ∨ nI k ≤ p) : m_CS_shade F n (nI k) v sh p = some (-1) := by
  unfold m_CS_shade
  by_cases h1 : p < 0
  · rw [if_pos h1]
  · rw [if_neg h1, if_pos (h.resolve_left h1)]
theorem Mo_shade_t {F k j : Nat} {t n y z c d : Int32} {sh : Nat → Int32} (hk : k ≤ 40) (hj : j < k) : m_Mo_shade F t n (nI k) y z c d sh (nI j) = some (sh j, 0) := by
  unfold m_Mo_shade
  rw [if_neg (nI_pos (by omega)), if_neg (nI_ge hj (by omega)), gC_t (inb_nI (by omega) (by omega)), nI_clamp (by omega)]
theorem Mo_shade_f {F k : Nat} {t n y z c d p : Int32} {sh : Nat → Int32} (h : p < 0 ∨ nI k ≤ p) : m_Mo_shade F t n (nI k) y z c d sh p = some (-1, 0) := by
  unfold m_Mo_shade
  by_cases h1 : p < 0
  · rw [if_pos h1]
  · rw [if_neg h1, if_pos (h.resolve_left h1)]
