/-! MY OWN BASE: models in Option (none: an index out of range, no fuel), rows of grids, contracts' shapes -/
def gL {σ ρ : Type} (body : (σ → Option ρ) → σ → Option ρ) : Nat → σ → Option ρ
  | 0, _ => none
  | n + 1, s => body (gL body n) s
def gB {α ρ : Type} (e : α) (k : α → Option ρ) : Option ρ := k e
def gC {ρ : Type} (b : Bool) (a : Option ρ) : Option ρ := match b with | true => a | false => none
def gM {α ρ : Type} (o : Option α) (k : α → Option ρ) : Option ρ := match o with | some a => k a | none => none
def inb (i : Int32) (n : Nat) : Bool := decide (¬ (i < 0 ∨ n ≤ i.toNatClampNeg))
def gF {α : Type} (M : Nat → α) (i : Nat) (r : α) : Nat → α := fun a => if a = i then r else M a
def gU (M : Nat → Nat → Int32) (i j : Nat) (v : Int32) : Nat → Nat → Int32 := gF M i (upd (M i) j v)
def fillA {α : Type} (n : Nat) (v : α) (f : Nat → α) : Nat → α := fun j => if j < n then v else f j
def gO (r : Nat → Nat) (n : Nat) : Nat → Option Nat := fun i => if i < n then some (r i) else none
def rowsW (r : Nat → Nat) (cI : ClassId) (k n : Nat) (M : Nat → Nat → Int32) : va_W := (List.range n).map (fun i => (r i, .inl (cI, k, .inl (M i))))
def cpyB (sp dp n : Int32) (n0 n1 : Nat) : Bool := decide (¬ sp < 0) && (decide (¬ dp < 0) && (decide (¬ n < 0) && (decide (sp.toNatClampNeg + n.toNatClampNeg ≤ n0) && decide (dp.toNatClampNeg + n.toNatClampNeg ≤ n1))))
abbrev bz (r : Int32) : Prop := r = 0 ∨ r = 1
def maxI (x y : Int32) : Int32 := if x < y then y else x
def minI (x y : Int32) : Int32 := if y < x then y else x
abbrev tyL (cI cJ cG cZ : ClassId) : List (ClassId × FieldType) := [(cI, .int), (cJ, .long), (cG, .array .int), (cZ, .boolean)]
def NwA (U : State) : Prop := ∀ w ∈ nestw, va_Nw w U
abbrev PcS (D : va_G) (tys : List (ClassId × FieldType)) (av : List Value) (sz : Nat) (ws : va_W) : Array Value → State → Prop := va_Pc av (fun U => U.heap.size = sz ∧ va_P D vwCl ws U.heap ∧ va_K D vwCl tys U ∧ va_D (fun _ => True) ws ∧ NwA U)
abbrev PoS (D : va_G) (tys : List (ClassId × FieldType)) (ws : va_W) (A : Nat → Prop) (t : State) : Prop := va_P D vwCl ws t.heap ∧ va_K D vwCl tys t ∧ va_D A ws
theorem nestw_on : ∀ w ∈ nestw, w.onTables = true := by decide +kernel
theorem NwA.same {u U : State} (h : u.vm = U.vm) (hN : NwA u) : NwA U := fun w hw => va_Nw.same (nestw_on w hw) h (hN w hw)
theorem nestw_is : ∀ w ∈ nestw, ∃ a i x h, w = Cond.methodLinkNest a i x h := by
  intro w hw
  simp only [nestw, List.mem_cons, List.not_mem_nil, or_false] at hw
  rcases hw with rfl | rfl | rfl | rfl | rfl | rfl | rfl | rfl | rfl <;> exact ⟨_, _, _, _, rfl⟩
theorem NwA.warm {s U : State} (hW : s.WarmedH U.vm) (hN : NwA s) : NwA U := fun w hw => by
  obtain ⟨a, i, x, h, rfl⟩ := nestw_is w hw
  exact va_Nw.warmM hW (hN _ hw)
theorem PcS_blind {D : va_G} {tys : List (ClassId × FieldType)} {av : List Value} {sz : Nat} {ws : va_W} : FrameBlind (PcS D tys av sz ws) := fun a U g mk q => by
  obtain ⟨q0, q1, qP, qK, qD, qN⟩ := q
  exact ⟨q0, q1, qP, va_K.moved (u := U) (U := U.calling g mk a) (Vm.Alike.refl U.vm) qK, qD, NwA.same (u := U) (U := U.calling g mk a) rfl qN⟩
theorem PcS_in {D : va_G} {tys : List (ClassId × FieldType)} {av : List Value} {ws : va_W} {s : State} {H : Heap} {A : Nat → Prop} (hP : va_P D vwCl ws H) (hK : va_K D vwCl tys s) (hD : va_D A ws) (hN : NwA s) : ∀ U : State, U.heap = H → s.WarmedH U.vm → PcS D tys av H.size ws av.toArray U := fun U hU hW =>
  ⟨rfl, by rw [hU], by rw [hU]; exact hP, va_K.moved hW.alike hK, hD.weaken (fun _ _ _ _ => trivial), hN.warm hW⟩
theorem gL_e {σ ρ : Type} {body : (σ → Option ρ) → σ → Option ρ} {F : Nat} {s0 : σ} {r : ρ} {P : σ → Prop} (h : gL body F s0 = some r) (step : ∀ (k : σ → Option ρ) (z : σ), (∀ z', k z' = some r → P z') → body k z = some r → P z) : P s0 := by
  induction F generalizing s0 with
  | zero => cases h
  | succ n ih => exact step (gL body n) s0 (fun z' hz => ih hz) h
theorem gB_at {α ρ : Type} {e x : α} {k : α → Option ρ} {r : ρ} (h : x = e) (hm : gB e k = some r) : k x = some r := by subst h; exact hm
theorem gB_x {α ρ : Type} {e : α} {k : α → Option ρ} {r : ρ} (hm : gB e k = some r) : ∃ x, x = e ∧ k x = some r := ⟨e, rfl, hm⟩
theorem gC_e {ρ : Type} {b : Bool} {a : Option ρ} {r : ρ} (hm : gC b a = some r) : b = true ∧ a = some r := by
  cases b with
  | false => cases hm
  | true => exact ⟨rfl, hm⟩
theorem gM_e {α ρ : Type} {o : Option α} {k : α → Option ρ} {r : ρ} (hm : gM o k = some r) : ∃ a, o = some a ∧ k a = some r := by
  cases o with
  | none => cases hm
  | some a => exact ⟨a, rfl, hm⟩
theorem ite_t {ρ : Type} {c : Prop} [Decidable c] {a b : Option ρ} {r : ρ} (hc : c) (h : (if c then a else b) = some r) : a = some r := by rwa [if_pos hc] at h
theorem ite_f {ρ : Type} {c : Prop} [Decidable c] {a b : Option ρ} {r : ρ} (hc : ¬ c) (h : (if c then a else b) = some r) : b = some r := by rwa [if_neg hc] at h
theorem inb_vp {i : Int32} {n : Nat} (h : inb i n = true) : vp_in i n := by
  unfold inb at h
  have h2 := of_decide_eq_true h
  exact h2
theorem inb_lt {i : Int32} {n : Nat} (h : inb i n = true) : i.toNatClampNeg < n := Nat.not_le.mp fun q => inb_vp h (Or.inr q)
theorem jn0 {ρ : Type} {J f : Option ρ} {r : ρ} (h : J = f) (hm : J = some r) : f = some r := h ▸ hm
theorem jn1 {ρ A1 : Type} {J f : A1 → Option ρ} {a1 : A1} {r : ρ} (h : J = f) (hm : J a1 = some r) : f a1 = some r := h ▸ hm
theorem jn2 {ρ A1 A2 : Type} {J f : A1 → A2 → Option ρ} {a1 : A1} {a2 : A2} {r : ρ} (h : J = f) (hm : J a1 a2 = some r) : f a1 a2 = some r := h ▸ hm
theorem jn3 {ρ A1 A2 A3 : Type} {J f : A1 → A2 → A3 → Option ρ} {a1 : A1} {a2 : A2} {a3 : A3} {r : ρ} (h : J = f) (hm : J a1 a2 a3 = some r) : f a1 a2 a3 = some r := h ▸ hm
theorem jn4 {ρ A1 A2 A3 A4 : Type} {J f : A1 → A2 → A3 → A4 → Option ρ} {a1 : A1} {a2 : A2} {a3 : A3} {a4 : A4} {r : ρ} (h : J = f) (hm : J a1 a2 a3 a4 = some r) : f a1 a2 a3 a4 = some r := h ▸ hm
theorem jn5 {ρ A1 A2 A3 A4 A5 : Type} {J f : A1 → A2 → A3 → A4 → A5 → Option ρ} {a1 : A1} {a2 : A2} {a3 : A3} {a4 : A4} {a5 : A5} {r : ρ} (h : J = f) (hm : J a1 a2 a3 a4 a5 = some r) : f a1 a2 a3 a4 a5 = some r := h ▸ hm
theorem jn6 {ρ A1 A2 A3 A4 A5 A6 : Type} {J f : A1 → A2 → A3 → A4 → A5 → A6 → Option ρ} {a1 : A1} {a2 : A2} {a3 : A3} {a4 : A4} {a5 : A5} {a6 : A6} {r : ρ} (h : J = f) (hm : J a1 a2 a3 a4 a5 a6 = some r) : f a1 a2 a3 a4 a5 a6 = some r := h ▸ hm
theorem bz_nar {v : Int32} (h : bz v) : narrow .boolean (.int v) = .int v := by
  rcases h with rfl | rfl <;> rfl
theorem gO_lt {r : Nat → Nat} {n i : Nat} (h : i < n) : gO r n i = some (r i) := if_pos h
theorem rows_get {X : va_W} {r : Nat → Nat} {cI : ClassId} {k n i L : Nat} {M : Nat → Nat → Int32} (hL : X.length = L) (hi : i < n) : (X ++ rowsW r cI k n M)[L + i]? = some (r i, .inl (cI, k, .inl (M i))) := by
  subst hL
  rw [List.getElem?_append_right (Nat.le_add_right _ _), Nat.add_sub_cancel_left]
  simp [rowsW, hi]
theorem rows_set {X : va_W} {r : Nat → Nat} {cI : ClassId} {k n i L : Nat} {M : Nat → Nat → Int32} {w : Nat → Int32} (hL : X.length = L) : (X ++ rowsW r cI k n M).set (L + i) (r i, .inl (cI, k, .inl w)) = X ++ rowsW r cI k n (gF M i w) := by
  subst hL
  rw [List.set_append_right _ _ (Nat.le_add_right _ _), Nat.add_sub_cancel_left]
  congr 1
  apply List.ext_getElem?
  intro j
  rw [List.getElem?_set]
  by_cases hj : i = j
  · subst hj
    by_cases hn : i < n
    · simp [rowsW, hn, gF]
    · simp [rowsW, hn, gF]
  · by_cases hn : j < n
    · simp [rowsW, hn, gF, hj, Ne.symm hj]
    · simp [rowsW, hn, gF, hj]
theorem rows_setP {D : va_G} {cl : List vw_C} {H : Heap} {X : va_W} {r : Nat → Nat} {cI : ClassId} {k n i L : Nat} {M : Nat → Nat → Int32} {w : Nat → Int32} (hL : X.length = L) (h : va_P D cl ((X ++ rowsW r cI k n M).set (L + i) (r i, .inl (cI, k, .inl w))) H) : va_P D cl (X ++ rowsW r cI k n (gF M i w)) H := by
  rw [rows_set hL] at h; exact h
theorem rows_setD {A : Nat → Prop} {X : va_W} {r : Nat → Nat} {cI : ClassId} {k n i L : Nat} {M : Nat → Nat → Int32} {w : Nat → Int32} (hL : X.length = L) (h : va_D A ((X ++ rowsW r cI k n M).set (L + i) (r i, .inl (cI, k, .inl w)))) : va_D A (X ++ rowsW r cI k n (gF M i w)) := by
  rw [rows_set hL] at h; exact h
def bzB (v : Int32) : Bool := decide (v = 0 ∨ v = 1)
theorem bzB_e {v : Int32} (h : bzB v = true) : bz v := of_decide_eq_true h
theorem good_code {y : MethodName} {cd : ByteArray} {ml : Nat} {rt : Option FieldType} : ((Cond.code y cd ml rt).onTables && (Cond.code y cd ml rt).keeps) = true := rfl
theorem good_all : ∀ w ∈ gtbl, ((w.onTables && w.keeps) = true ∨ ∃ ty, w = .arrayClass ty) := fun w h => good_of_word (List.mem_filter.mp h).2
theorem good_tbl : GoodIn gtbl gtbl := fun w h => ⟨h, good_all w h⟩
theorem gdN {y : MethodName} {cd : ByteArray} {ml : Nat} {rt : Option FieldType} (hc : Cond.code y cd ml rt ∈ gtbl) : GoodIn gtbl (.code y cd ml rt :: gtbl) := fun w h => (List.mem_cons.mp h).elim (fun e => e ▸ good_tbl _ hc) (good_tbl w)
theorem gdV {own C : String} {idx : Nat} {y : MethodName} {cd : ByteArray} {ml : Nat} {rt : Option FieldType} (h1 : Cond.methodLink own idx y ∈ gtbl) (h2 : Cond.instanceMethod y ∈ gtbl) (h3 : Cond.selects C y y ∈ gtbl) (h4 : Cond.initialized C ∈ gtbl) (hc : Cond.code y cd ml rt ∈ gtbl) : GoodIn gtbl (wsV own idx C y (.code y cd ml rt :: gtbl)) := by
  intro w h
  rcases List.mem_append.mp h with h | h
  · simp only [List.mem_cons, List.not_mem_nil, or_false] at h
    rcases h with rfl | rfl | rfl | rfl
    · exact good_tbl _ h1
    · exact good_tbl _ h2
    · exact good_tbl _ h3
    · exact good_tbl _ h4
  · exact gdN hc w h
theorem gdS {own : String} {idx : Nat} {y : MethodName} {cd : ByteArray} {ml : Nat} {rt : Option FieldType} (h1 : Cond.methodLink own idx y ∈ gtbl) (h2 : Cond.static y ∈ gtbl) (h4 : Cond.initialized own ∈ gtbl) (hc : Cond.code y cd ml rt ∈ gtbl) : GoodIn gtbl (wsS own idx y (.code y cd ml rt :: gtbl)) := by
  intro w h
  rcases List.mem_append.mp h with h | h
  · simp only [List.mem_cons, List.not_mem_nil, or_false] at h
    rcases h with rfl | rfl | rfl
    · exact good_tbl _ h1
    · exact good_tbl _ h2
    · exact good_tbl _ h4
  · exact gdN hc w h
theorem gdJ {own : String} {idx : Nat} {y : MethodName} {cd : ByteArray} {ml : Nat} {rt : Option FieldType} (h1 : Cond.methodLink own idx y ∈ gtbl) (h2 : Cond.static y ∈ gtbl) (h4 : Cond.initialized y.cls ∈ gtbl) (hc : Cond.code y cd ml rt ∈ gtbl) : GoodIn gtbl (va_wsS own idx y (.code y cd ml rt :: gtbl)) := by
  intro w h
  rcases List.mem_append.mp h with h | h
  · simp only [List.mem_cons, List.not_mem_nil, or_false] at h
    rcases h with rfl | rfl | rfl
    · exact good_tbl _ h1
    · exact good_tbl _ h2
    · exact good_tbl _ h4
  · exact gdN hc w h
