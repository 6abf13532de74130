/-! a contract over a part of a world, lifted to the whole world -/
def sb (v u : va_W) : Prop := ∃ f : Nat → Nat, (∀ i q, v[i]? = some q → u[f i]? = some q) ∧ ∀ i j q r, v[i]? = some q → v[j]? = some r → f i = f j → i = j
theorem sb_rf (u : va_W) : sb u u := ⟨fun i => i, fun _ _ h => h, fun _ _ _ _ _ _ h => h⟩
theorem sb_tr {a b c : va_W} (h : sb a b) (k : sb b c) : sb a c := by
  obtain ⟨f, f1, f2⟩ := h
  obtain ⟨g, g1, g2⟩ := k
  exact ⟨fun i => g (f i), fun i q h => g1 _ _ (f1 i q h), fun i j q r hi hj e => f2 i j q r hi hj (g2 _ _ q r (f1 i q hi) (f1 j r hj) e)⟩
theorem sb_of {u v : va_W} (is : List Nat) (hn : va_nd is = true) (hs : is.map (fun i => u[i]?) = v.map some) : sb v u := by
  have key : ∀ (k : Nat) (q : Nat × va_E), v[k]? = some q → ∃ i, is[k]? = some i ∧ u[i]? = some q := by
    intro k q hk
    have h1 : (is.map (fun i => u[i]?))[k]? = some (some q) := by rw [hs, List.getElem?_map, hk]; rfl
    rw [List.getElem?_map] at h1
    cases hi : is[k]? with
    | none => rw [hi] at h1; cases h1
    | some i => rw [hi] at h1; exact ⟨i, rfl, Option.some.inj h1⟩
  refine ⟨fun k => (is[k]?).getD 0, fun i q h => ?_, fun i j q r hi hj e => ?_⟩
  · obtain ⟨x, h1, h2⟩ := key i q h
    dsimp only
    rw [h1]
    exact h2
  · obtain ⟨x, h1, h2⟩ := key i q hi
    obtain ⟨y, h3, h4⟩ := key j r hj
    dsimp only at e
    rw [h1, h3] at e
    have e : x = y := e
    subst e
    exact va_nd_inj is hn i j x h1 h3
theorem app_at {a b : va_W} {i : Nat} {q : Nat × va_E} (h : (a ++ b)[i]? = some q) : (i < a.length ∧ a[i]? = some q) ∨ (a.length ≤ i ∧ b[i - a.length]? = some q) := by
  by_cases hl : i < a.length
  · rw [List.getElem?_append_left hl] at h
    exact Or.inl ⟨hl, h⟩
  · rw [List.getElem?_append_right (by omega)] at h
    exact Or.inr ⟨by omega, h⟩
theorem at_l {a b : va_W} {i : Nat} {q : Nat × va_E} (h : a[i]? = some q) : (a ++ b)[i]? = some q := by
  obtain ⟨hl, -⟩ := List.getElem?_eq_some_iff.mp h
  rw [List.getElem?_append_left hl]
  exact h
theorem at_r {a b : va_W} {i : Nat} {q : Nat × va_E} (h : b[i]? = some q) : (a ++ b)[a.length + i]? = some q := by
  rw [List.getElem?_append_right (Nat.le_add_right _ _), Nat.add_sub_cancel_left]
  exact h
theorem at_lt {a : va_W} {i : Nat} {q : Nat × va_E} (h : a[i]? = some q) : i < a.length := (List.getElem?_eq_some_iff.mp h).1
theorem sb_app {a b a' b' : va_W} (h : sb a a') (k : sb b b') : sb (a ++ b) (a' ++ b') := by
  obtain ⟨f, f1, f2⟩ := h
  obtain ⟨g, g1, g2⟩ := k
  have bl : ∀ i q, a[i]? = some q → f i < a'.length := fun i q h => at_lt (f1 i q h)
  refine ⟨fun i => if i < a.length then f i else a'.length + g (i - a.length), fun i q h => ?_, fun i j q r hi hj e => ?_⟩
  · dsimp only
    rcases app_at h with ⟨h1, h2⟩ | ⟨h1, h2⟩
    · rw [if_pos h1]; exact at_l (f1 i q h2)
    · rw [if_neg (by omega)]; exact at_r (g1 _ q h2)
  · dsimp only at e
    rcases app_at hi with ⟨h1, h2⟩ | ⟨h1, h2⟩
    · rcases app_at hj with ⟨k1, k2⟩ | ⟨k1, k2⟩
      · rw [if_pos h1, if_pos k1] at e
        exact f2 i j q r h2 k2 e
      · rw [if_pos h1, if_neg (by omega)] at e
        have := bl i q h2
        omega
    · rcases app_at hj with ⟨k1, k2⟩ | ⟨k1, k2⟩
      · rw [if_neg (by omega), if_pos k1] at e
        have := bl j r k2
        omega
      · rw [if_neg (by omega), if_neg (by omega)] at e
        have := g2 _ _ q r h2 k2 (by omega)
        omega
theorem sb_comm (a b : va_W) : sb (a ++ b) (b ++ a) := by
  refine ⟨fun i => if i < a.length then b.length + i else i - a.length, fun i q h => ?_, fun i j q r hi hj e => ?_⟩
  · dsimp only
    rcases app_at h with ⟨h1, h2⟩ | ⟨h1, h2⟩
    · rw [if_pos h1]; exact at_r h2
    · rw [if_neg (by omega)]; exact at_l h2
  · dsimp only at e
    rcases app_at hi with ⟨h1, h2⟩ | ⟨h1, h2⟩ <;> rcases app_at hj with ⟨k1, k2⟩ | ⟨k1, k2⟩
    · rw [if_pos h1, if_pos k1] at e; omega
    · rw [if_pos h1, if_neg (by omega)] at e
      have := at_lt k2
      omega
    · rw [if_neg (by omega), if_pos k1] at e
      have := at_lt h2
      omega
    · rw [if_neg (by omega), if_neg (by omega)] at e; omega
theorem sb_mid (a b c d : va_W) : sb ((a ++ b) ++ (c ++ d)) ((a ++ c) ++ (b ++ d)) := by
  have h := sb_app (sb_rf a) (sb_app (sb_comm b c) (sb_rf d))
  simpa [List.append_assoc] using h
theorem va_P.sb {D : va_G} {cl : List vw_C} {u v : va_W} {H : Heap} (h : va_P D cl u H) (hs : sb v u) : va_P D cl v H := by
  obtain ⟨f, f1, -⟩ := hs
  exact fun k q hk => h _ q (f1 k q hk)
theorem va_D.sb {A : Nat → Prop} {u v : va_W} (h : va_D A u) (hs : sb v u) : va_D A v := by
  obtain ⟨f, f1, f2⟩ := hs
  exact ⟨fun i j p q hi hj e => f2 i j p q hi hj (h.1 _ _ p q (f1 i p hi) (f1 j q hj) e), fun k q hk => h.2 _ q (f1 k q hk)⟩
theorem va_A_sb {u v : va_W} {sz q : Nat} (hs : sb v u) (h : va_A v sz q) : va_A u sz q := by
  obtain ⟨f, f1, -⟩ := hs
  rcases h with ⟨k, e, h⟩ | h
  · exact Or.inl ⟨_, e, f1 k _ h⟩
  · exact Or.inr h
theorem sb_l (a b : va_W) : sb a (a ++ b) := ⟨fun i => i, fun _ _ h => at_l h, fun _ _ _ _ _ _ h => h⟩
theorem sb_r (a b : va_W) : sb b (a ++ b) := ⟨fun i => a.length + i, fun _ _ h => at_r h, fun _ _ _ _ _ _ h => by dsimp only at h; omega⟩
/-- behind a call: the rest beside what came back -/
theorem fr_join {D : va_G} {cl : List vw_C} {wc wr w1 : va_W} {A0 : Nat → Prop} {st t : State} (hP : va_P D cl (wc ++ wr) st.heap) (hD : va_D A0 (wc ++ wr)) (hF : va_F (va_A wc st.heap.size) st t) (hP1 : va_P D cl w1 t.heap) (hD1 : va_D (va_A wc st.heap.size) w1) : va_P D cl (w1 ++ wr) t.heap ∧ va_D (va_A (wc ++ wr) st.heap.size) (w1 ++ wr) := by
  have apart : ∀ (k : Nat) (q : Nat × va_E), wr[k]? = some q → q.1 < st.heap.size ∧ ¬ va_A wc st.heap.size q.1 := by
    intro k q hq
    have hq' := at_r (a := wc) hq
    have hl := (hP _ q hq').lt
    refine ⟨hl, fun h => ?_⟩
    rcases h with ⟨k2, e, h⟩ | h
    · have h2 := at_l (b := wr) h
      have := hD.1 _ _ q (q.1, e) hq' h2 rfl
      have := at_lt h
      omega
    · omega
  refine ⟨va_P.app hP1 (fun k q hq => ?_), va_D.app (hD1.weaken (fun k q _ h => va_A_sb (sb_l wc wr) h)) ⟨fun i j p q hi hj e => ?_, fun k q hk => Or.inl ⟨_, q.2, at_r hk⟩⟩ (fun i j x y hx hy hxy => ?_)⟩
  · obtain ⟨g1, g2⟩ := apart k q hq
    exact (hP _ q (at_r hq)).kept (hF.2 q.1 g1 g2)
  · have := hD.1 _ _ p q (at_r hi) (at_r hj) e
    omega
  · exact (apart j y hy).2 (by rw [← hxy]; exact hD1.2 i x hx)
theorem Met.lift {l : Launch} {y : MethodName} {us : List Cond} {rm : Room} {Pc Pc' : Array Value → State → Prop} {Qc Qc' : Array Value → State → Outcome → State → Prop} {mc ms : Nat} {free free' : Addr → Prop} (h : Met l y us rm Pc Qc mc ms free) (hp : ∀ a s, Pc' a s → Pc a s) (hq : ∀ a s o t, Pc' a s → Qc a s o t → Qc' a s o t) (hf : ∀ q, free q → free' q) : Met l y us rm Pc' Qc' mc ms free' := by
  intro p e ha hc hk s m args below hfr happ hP hK
  obtain ⟨n, o, h1, h2, h3, h4, L, h5, h6⟩ := h p e ha hc hk s m args below hfr happ (hp _ _ hP) hK
  exact ⟨n, o, h1, h2, h3, hq _ _ _ _ hP h4, L, h5, fun q hq => hf _ (h6 q hq)⟩
/-- a call that answers an int r, and leaves one of the worlds of P -/
abbrev CI (l : Launch) (D : va_G) (ty : List (ClassId × FieldType)) (y : MethodName) (us : List Cond) (rm : Room) (av : List Value) (mc ms : Nat) (w : va_W) (r : Int32) (P : va_W → Prop) : Prop := ∀ sz : Nat, Met l y us rm (PcS D ty av sz w) (va_Qi (fun (r' : Int32) (u : va_W) => r' = r ∧ P u) (fun u t => PoS D ty u (va_A w sz) t) (va_A w sz)) mc ms (va_A w sz)
abbrev CL (l : Launch) (D : va_G) (ty : List (ClassId × FieldType)) (y : MethodName) (us : List Cond) (rm : Room) (av : List Value) (mc ms : Nat) (w : va_W) (r : Int64) (P : va_W → Prop) : Prop := ∀ sz : Nat, Met l y us rm (PcS D ty av sz w) (va_Ql (fun (r' : Int64) (u : va_W) => r' = r ∧ P u) (fun u t => PoS D ty u (va_A w sz) t) (va_A w sz)) mc ms (va_A w sz)
abbrev CV (l : Launch) (D : va_G) (ty : List (ClassId × FieldType)) (y : MethodName) (us : List Cond) (rm : Room) (av : List Value) (mc ms : Nat) (w : va_W) (P : va_W → Prop) : Prop := ∀ sz : Nat, Met l y us rm (PcS D ty av sz w) (va_Qv (fun (u : va_W) => P u) (fun u t => PoS D ty u (va_A w sz) t) (va_A w sz)) mc ms (va_A w sz)
theorem PcS_sb {D : va_G} {ty : List (ClassId × FieldType)} {av : List Value} {sz : Nat} {u v : va_W} {a : Array Value} {s : State} (hs : sb v u) (h : PcS D ty av sz u a s) : PcS D ty av sz v a s := by
  obtain ⟨h0, h1, hP, hK, hD, hN⟩ := h
  exact ⟨h0, h1, hP.sb hs, hK, hD.sb hs, hN⟩
theorem va_F_sb {u v : va_W} {sz : Nat} {st t : State} (hs : sb v u) (h : va_F (va_A v sz) st t) : va_F (va_A u sz) st t := ⟨h.1, fun q h1 h2 => h.2 q h1 (fun h3 => h2 (va_A_sb hs h3))⟩
theorem PoS_sb {D : va_G} {ty : List (ClassId × FieldType)} {sz : Nat} {av : List Value} {w wr ws w1 v : va_W} {a : Array Value} {st t : State} (hs : sb (w ++ wr) ws) (hv : sb v (w1 ++ wr)) (hq : PcS D ty av sz ws a st) (hF : va_F (va_A w sz) st t) (hB : PoS D ty w1 (va_A w sz) t) : PoS D ty v (va_A ws sz) t := by
  obtain ⟨h0, h1, hP, hK, hD, hN⟩ := hq
  obtain ⟨b1, b2, b3⟩ := hB
  subst h1
  obtain ⟨j1, j2⟩ := fr_join (hP.sb hs) (hD.sb hs) hF b1 b3
  exact ⟨j1.sb hv, b2, (j2.sb hv).weaken (fun _ _ _ h => va_A_sb hs h)⟩
theorem CI_lift {l : Launch} {D : va_G} {ty : List (ClassId × FieldType)} {y : MethodName} {us : List Cond} {rm : Room} {av : List Value} {mc ms : Nat} {w wr ws : va_W} {r : Int32} {P P' : va_W → Prop} (h : CI l D ty y us rm av mc ms w r P) (hs : sb (w ++ wr) ws) (hP : ∀ u, P u → ∃ v, sb v (u ++ wr) ∧ P' v) : CI l D ty y us rm av mc ms ws r P' := fun sz =>
  Met.lift (h sz) (fun a s q => PcS_sb (sb_tr (sb_l w wr) hs) q) (fun a s o t q ⟨⟨r', u, e1, ⟨e2, e3⟩, e4⟩, e5⟩ => by
    obtain ⟨v, v1, v2⟩ := hP u e3
    exact ⟨⟨r', v, e1, ⟨e2, v2⟩, PoS_sb hs v1 q e5 e4⟩, va_F_sb (sb_tr (sb_l w wr) hs) e5⟩) (fun q h => va_A_sb (sb_tr (sb_l w wr) hs) h)
theorem CL_lift {l : Launch} {D : va_G} {ty : List (ClassId × FieldType)} {y : MethodName} {us : List Cond} {rm : Room} {av : List Value} {mc ms : Nat} {w wr ws : va_W} {r : Int64} {P P' : va_W → Prop} (h : CL l D ty y us rm av mc ms w r P) (hs : sb (w ++ wr) ws) (hP : ∀ u, P u → ∃ v, sb v (u ++ wr) ∧ P' v) : CL l D ty y us rm av mc ms ws r P' := fun sz =>
  Met.lift (h sz) (fun a s q => PcS_sb (sb_tr (sb_l w wr) hs) q) (fun a s o t q ⟨⟨r', u, e1, ⟨e2, e3⟩, e4⟩, e5⟩ => by
    obtain ⟨v, v1, v2⟩ := hP u e3
    exact ⟨⟨r', v, e1, ⟨e2, v2⟩, PoS_sb hs v1 q e5 e4⟩, va_F_sb (sb_tr (sb_l w wr) hs) e5⟩) (fun q h => va_A_sb (sb_tr (sb_l w wr) hs) h)
theorem CV_lift {l : Launch} {D : va_G} {ty : List (ClassId × FieldType)} {y : MethodName} {us : List Cond} {rm : Room} {av : List Value} {mc ms : Nat} {w wr ws : va_W} {P P' : va_W → Prop} (h : CV l D ty y us rm av mc ms w P) (hs : sb (w ++ wr) ws) (hP : ∀ u, P u → ∃ v, sb v (u ++ wr) ∧ P' v) : CV l D ty y us rm av mc ms ws P' := fun sz =>
  Met.lift (h sz) (fun a s q => PcS_sb (sb_tr (sb_l w wr) hs) q) (fun a s o t q ⟨⟨u, e1, e3, e4⟩, e5⟩ => by
    obtain ⟨v, v1, v2⟩ := hP u e3
    exact ⟨⟨v, e1, v2, PoS_sb hs v1 q e5 e4⟩, va_F_sb (sb_tr (sb_l w wr) hs) e5⟩) (fun q h => va_A_sb (sb_tr (sb_l w wr) hs) h)
theorem CI_of {S : Type} {l : Launch} {D : va_G} {ty : List (ClassId × FieldType)} {y : MethodName} {us : List Cond} {rm : Room} {av : List Value} {mc ms : Nat} {w wr ws : va_W} {ret : Int32} {post : Int32 → S → Prop} {w1 ws' : S → va_W} (h : ∀ sz : Nat, Met l y us rm (PcS D ty av sz w) (va_Qi post (fun u t => PoS D ty (w1 u) (va_A w sz) t) (va_A w sz)) mc ms (va_A w sz)) (hr : ∀ r u, post r u → r = ret) (hs : sb (w ++ wr) ws) (hs' : ∀ u, sb (ws' u) (w1 u ++ wr)) : CI l D ty y us rm av mc ms ws ret (fun v => ∃ u, v = ws' u) := fun sz =>
  Met.lift (h sz) (fun a s q => PcS_sb (sb_tr (sb_l w wr) hs) q) (fun a s o t q ⟨⟨r', u, e1, e2, e4⟩, e5⟩ =>
    ⟨⟨r', ws' u, e1, ⟨hr _ _ e2, u, rfl⟩, PoS_sb hs (hs' u) q e5 e4⟩, va_F_sb (sb_tr (sb_l w wr) hs) e5⟩) (fun q h => va_A_sb (sb_tr (sb_l w wr) hs) h)
theorem CL_of {S : Type} {l : Launch} {D : va_G} {ty : List (ClassId × FieldType)} {y : MethodName} {us : List Cond} {rm : Room} {av : List Value} {mc ms : Nat} {w wr ws : va_W} {ret : Int64} {post : Int64 → S → Prop} {w1 ws' : S → va_W} (h : ∀ sz : Nat, Met l y us rm (PcS D ty av sz w) (va_Ql post (fun u t => PoS D ty (w1 u) (va_A w sz) t) (va_A w sz)) mc ms (va_A w sz)) (hr : ∀ r u, post r u → r = ret) (hs : sb (w ++ wr) ws) (hs' : ∀ u, sb (ws' u) (w1 u ++ wr)) : CL l D ty y us rm av mc ms ws ret (fun v => ∃ u, v = ws' u) := fun sz =>
  Met.lift (h sz) (fun a s q => PcS_sb (sb_tr (sb_l w wr) hs) q) (fun a s o t q ⟨⟨r', u, e1, e2, e4⟩, e5⟩ =>
    ⟨⟨r', ws' u, e1, ⟨hr _ _ e2, u, rfl⟩, PoS_sb hs (hs' u) q e5 e4⟩, va_F_sb (sb_tr (sb_l w wr) hs) e5⟩) (fun q h => va_A_sb (sb_tr (sb_l w wr) hs) h)
theorem CV_of {S : Type} {l : Launch} {D : va_G} {ty : List (ClassId × FieldType)} {y : MethodName} {us : List Cond} {rm : Room} {av : List Value} {mc ms : Nat} {w wr ws : va_W} {post : S → Prop} {w1 ws' : S → va_W} (h : ∀ sz : Nat, Met l y us rm (PcS D ty av sz w) (va_Qv post (fun u t => PoS D ty (w1 u) (va_A w sz) t) (va_A w sz)) mc ms (va_A w sz)) (hs : sb (w ++ wr) ws) (hs' : ∀ u, sb (ws' u) (w1 u ++ wr)) : CV l D ty y us rm av mc ms ws (fun v => ∃ u, v = ws' u) := fun sz =>
  Met.lift (h sz) (fun a s q => PcS_sb (sb_tr (sb_l w wr) hs) q) (fun a s o t q ⟨⟨u, e1, e2, e4⟩, e5⟩ =>
    ⟨⟨ws' u, e1, ⟨u, rfl⟩, PoS_sb hs (hs' u) q e5 e4⟩, va_F_sb (sb_tr (sb_l w wr) hs) e5⟩) (fun q h => va_A_sb (sb_tr (sb_l w wr) hs) h)
/-- explicit cells cut out of explicit cells, rows behind -/
theorem sb_ex {ec er E : va_W} (R : va_W) (h : sb (ec ++ er) E) : sb (ec ++ (er ++ R)) (E ++ R) := by
  rw [← List.append_assoc]
  exact sb_app h (sb_rf R)
theorem sb_ex' {ec er E : va_W} (R : va_W) (h : sb E (ec ++ er)) : sb (E ++ R) (ec ++ (er ++ R)) := by
  rw [← List.append_assoc]
  exact sb_app h (sb_rf R)
theorem sb_exP {ec er E : va_W} (R1 R2 : va_W) (h : sb (ec ++ er) E) : sb ((ec ++ R1) ++ (er ++ R2)) (E ++ (R1 ++ R2)) := sb_tr (sb_mid ec R1 er R2) (sb_app h (sb_rf _))
theorem sb_exP' {ec er E : va_W} (R1 R2 : va_W) (h : sb E (ec ++ er)) : sb (E ++ (R1 ++ R2)) ((ec ++ R1) ++ (er ++ R2)) := sb_tr (sb_app h (sb_rf _)) (sb_mid ec er R1 R2)
theorem sb_exQ {ec er E : va_W} (R1 R2 : va_W) (h : sb (ec ++ er) E) : sb ((ec ++ R2) ++ (er ++ R1)) (E ++ (R1 ++ R2)) := sb_tr (sb_mid ec R2 er R1) (sb_app h (sb_comm R2 R1))
theorem sb_exQ' {ec er E : va_W} (R1 R2 : va_W) (h : sb E (ec ++ er)) : sb (E ++ (R1 ++ R2)) ((ec ++ R2) ++ (er ++ R1)) := sb_tr (sb_app h (sb_comm R1 R2)) (sb_mid ec er R2 R1)
