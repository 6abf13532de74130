/-! the law's helper arcs: it calls arcs of the class, and catches -/
theorem fr_all {A : Nat → Prop} {w : va_W} {H0 H : Heap} {locs : List Loc} (hD : va_D A w) (hS : va_S A H0 H locs) (hA : ∀ q, H0.size ≤ q → A q) : ∀ q, va_A w H.size q → A q := fun q h => h.elim (fun ⟨k, e, h⟩ => hD.2 k _ h) (fun h => hA q (Nat.le_trans hS.1 h))
abbrev CU (l : Launch) (D : va_G) (ty : List (ClassId × FieldType)) (y : MethodName) (us : List Cond) (rm : Room) (av : List Value) (mc ms : Nat) (w : va_W) (r : Int32) (P : va_W → Prop) : Prop := ∀ sz : Nat, Met l y us rm (PcU D ty av sz w) (va_Qi (fun (r' : Int32) (u : va_W) => r' = r ∧ P u) (fun u t => PoS D ty u (va_A w sz) t) (va_A w sz)) mc ms (va_A w sz)
theorem CU_lift {l : Launch} {D : va_G} {ty : List (ClassId × FieldType)} {y : MethodName} {us : List Cond} {rm : Room} {av : List Value} {mc ms : Nat} {w wr ws : va_W} {r : Int32} {P P' : va_W → Prop} (h : CU l D ty y us rm av mc ms w r P) (hs : sb (w ++ wr) ws) (hP : ∀ u, P u → ∃ v, sb v (u ++ wr) ∧ P' v) : CU l D ty y us rm av mc ms ws r P' := fun sz =>
  Met.lift (h sz) (fun a s q => ⟨q.1, (PcS_sb (av := av) (a := a) (sb_tr (sb_l w wr) hs) ⟨q.1, q.2.1⟩).2, q.2.2⟩) (fun a s o t q ⟨⟨r', u, e1, ⟨e2, e3⟩, e4⟩, e5⟩ => by
    obtain ⟨v, v1, v2⟩ := hP u e3
    exact ⟨⟨r', v, e1, ⟨e2, v2⟩, PoS_sb (av := av) (a := a) hs v1 ⟨q.1, q.2.1⟩ e5 e4⟩, va_F_sb (sb_tr (sb_l w wr) hs) e5⟩) (fun q h => va_A_sb (sb_tr (sb_l w wr) hs) h)
theorem callVT {p : Program} {l : Launch} {e : Env} {R : Room} {s : State} {m : MethodId} {args : Array Value} {below : List Frame} {meth : Method} {c : Code} {T : State} {locs : List Loc} {cells slots : Nat} (X : Stand p l e R s m args below meth c T locs cells slots) (hexec : p.tables.exec = Jvm.exec) {own C : String} {index : Nat} {y : MethodName} {bytes : ByteArray} {maxL : Nat} {ret : Option FieldType}
    (hown : s.vm.findClass own = some m.cls) (hlink : (Cond.methodLink own index y).before args s = true) (hinst : (Cond.instanceMethod y).before args s = true) (hsel : (Cond.selects C y y).before args s = true)
    (hcode : (Cond.code y bytes maxL ret).before args s = true) (hy : y.cls ≠ "java/lang/invoke/MethodHandle" ∧ y.cls ≠ "java/lang/invoke/VarHandle")
    {W : Nat} {Pre : _root_.Jvm.Free.Pt → Array Value → Prop} {Post : _root_.Jvm.Free.Pt → Array Value → Addr → _root_.Jvm.Free.Pt → Prop} (hK : BackT l R p e below s args y 3 W Pre Post)
    {b : Addr} {cellB : Cell} (hcell : T.heap[b]? = some cellB) (hobj : cellB.vm.isStatics = false) (hcls : s.vm.findClass C = some cellB.cls)
    {g : JFrame} (hg : g.method = m) (hsize : g.locals.size = c.maxLocals) {argsL rest : List Value} (hlen : ∀ sig, parseMethodDescriptor y.desc = some sig → argsL.length = sig.parameters.length)
    (hstack : g.stack = argsL.reverse ++ .ref b :: rest) (hW : 2 * g.monitorRoom + (rest.map fun v => v.category).sum ≤ W) (hdg : decode c.code g.pc = .ok (.invokevirtual index, 3))
    (hpre : ∀ vm₁, s.WarmedH vm₁ → Pre ⟨T.setVm vm₁, locs, cells, slots⟩ (Value.ref b :: argsL).toArray) :
    ∃ (v : Addr) (vm₁ : Vm) (B : _root_.Jvm.Free.Pt), s.WarmedH vm₁ ∧ Stand p l e R s m args below meth c B.U B.locs B.cells B.slots ∧ Post ⟨T.setVm vm₁, locs, cells, slots⟩ (Value.ref b :: argsL).toArray v B ∧
      Steps p.tables e below (T.setTop g) ((B.U.setTop { g with stack := rest }).pushFrame (.throwing v)) := by
  obtain ⟨mk, methM, hnamed, hmethM, hstM, habM⟩ := Cond.instanceMethod_spec hinst
  obtain ⟨methM', cM, hmethM', -, -, -, -, -, -, hsigM⟩ := Cond.code_spec hnamed hcode
  cases hmethM.symm.trans hmethM'
  obtain ⟨c2, r2, m2, q1, q2, q3, q4, kP, hkP, hkPi⟩ := Cond.selects_spec hsel
  cases hcls.symm.trans q1
  cases (State.methodFound?_of_named hnamed hy).symm.trans q2
  cases hnamed.symm.trans q3
  have hselP : selectMethod e.platform s.vm cellB.cls mk = .method mk := by rw [Launch.admits_selectMethod X.admits]; exact q4
  obtain ⟨vm₁, X₁, hstep₁⟩ := X.invokevirtual hexec hown hlink hnamed hmethM hstM hkP hkPi hy (a := b) (cell := cellB) hcell
    (fun z h => by rw [h] at hobj; cases hobj) hselP hmethM habM hkP hkPi (g := g) hg (argsL := argsL) (rest := rest) (hlen _ hsigM) hstack hdg
  obtain ⟨v, B, X', hpost, hsteps⟩ := hK m meth c ⟨T.setVm vm₁, locs, cells, slots⟩ { g with stack := rest } (.invokevirtual index) mk (Value.ref b :: argsL).toArray X₁ hg hsize hdg hW (X₁.named hnamed) (hpre vm₁ X₁.warmed)
  exact ⟨v, vm₁, B, X₁.warmed, X', hpost, (hstep₁ _ fun acts => by rw [doInvoke_state]; exact Steps.refl _).trans hsteps⟩
abbrev us_law_arcs : List Cond := .codeWith y_law_arcs method_3_code 3 (some .int) [(0, 8, 11, 13)] :: gtbl
abbrev rm_law_arcs : Room := { frames := 24, cells := 1, slots := 6, locals := 668 }
set_option maxHeartbeats 4000000 in
set_option maxRecDepth 100000 in
theorem c_law_arcs0 {l : Launch} {dC : Nat → ClassId} {dI : Nat → Nat → Nat} {cI cJ cG cZ : ClassId} {a0 ao : Nat} {k : Int32} {P : va_W → Prop} {wx : va_W} {fs : List Value} {f : Nat → Int64} (hC : CI l (dC, dI) (tyL cI cJ cG cZ) y_CS_arcs us_CS_arcs rm_CS_arcs [.ref a0] 0 0 wx k P) (hrv : wx[0]? = some (a0, .inr (0, fs))) : CU l (dC, dI) (tyL cI cJ cG cZ) y_law_arcs us_law_arcs rm_law_arcs [.ref a0, .ref ao] 1 6 ((ao, .inl (cJ, 1, .inr (.inl f))) :: wx) 0 (fun v => ∃ u, P u ∧ v = (ao, .inl (cJ, 1, .inr (.inl (vp_updL f 0 k.toInt64)))) :: u) := by
  intro sz
  have hC2 : CI l (dC, dI) (tyL cI cJ cG cZ) y_CS_arcs us_CS_arcs rm_CS_arcs [.ref a0] 0 0 ((ao, .inl (cJ, 1, .inr (.inl f))) :: wx) k (fun v => ∃ u, P u ∧ v = (ao, .inl (cJ, 1, .inr (.inl f))) :: u) := CI_lift (wr := [(ao, .inl (cJ, 1, .inr (.inl f)))]) hC (sb_comm wx [(ao, .inl (cJ, 1, .inr (.inl f)))]) (fun u hu => ⟨_, sb_comm [(ao, .inl (cJ, 1, .inr (.inl f)))] u, u, hu, rfl⟩)
  refine va_MetW (cc := method_3_code) (maxL := 3) (ret := some .int) (by decide) rfl ?_
  intro p e s m args below meth c s₁ B hml hv
  obtain ⟨rfl, ⟨hsz, hP, hK, hD0, hNw⟩, hTH⟩ := hv
  have hx := B.exec
  have hb := B.bytes
  have hr := B.returns
  have htt : ∀ w ∈ gtbl, w.before _ s = true := fun w h => atoms_spec (ws := us_law_arcs) B.pre w (List.mem_cons_of_mem _ h)
  have hown : s.vm.findClass R_law = some m.cls := findClass_of_methodNamed B.named
  have hlocks := B.notSynchronized
  subst hsz
  have hD := hD0.self (sz := s.heap.size)
  generalize hAe : va_A ((ao, .inl (cJ, 1, .inr (.inl f))) :: wx) s.heap.size = A at hD ⊢
  have hA : ∀ q : Nat, s.heap.size ≤ q → A q := fun q h => by rw [← hAe]; exact Or.inr h
  clear hAe hD0
  have hS : va_S A s.heap s.heap [] := va_S.rf
  have hl := lv_entry ([.ref a0, .ref ao]) (n := 3) (Nat.le_of_ble_eq_true rfl)
  rw [lg_entry_eq]
  generalize (lg_sl ([.ref a0, .ref ao]) ++ List.replicate (3 - (lg_sl ([.ref a0, .ref ao])).length) Slot.unset).toArray = ls at hl ⊢
  have hl : lv_has ls 3 [(0, .ref a0), (1, .ref ao)] := hl
  generalize hH : s.heap = H at hP ⊢
  have hS : va_S A s.heap H [] := hH ▸ hS
  generalize hLo : ([] : List Loc) = locs at hS ⊢
  clear hH hLo
  refine lv_aload_n hx hb d_la_0 rfl (lv_at hl 1 rfl) ?_
  refine lv_iconst (v := 0) hx hb d_la_1 (by decide) ?_
  refine lv_aload_n hx hb d_la_2 rfl (lv_at hl 0 rfl) ?_
  have hF := fr_all hD hS hA
  refine va_calli (va_runV (As := []) (rest := [.int 0, .ref ao]) ⟨hx, hb, hml, hown, htt⟩ (hC2 H.size) (cwV 0 htt (gdV kt_677 kt_678 kt_679 kt_1 kt_680) rfl rfl rfl (by decide +kernel) ⟨(Nat.le_of_ble_eq_true rfl), (Nat.le_of_ble_eq_true rfl)⟩) ⟨PcS_blind, va_recv hK hP (ci := 0) (q0 := 1) rfl hrv, PcS_in hP hK hD hNw⟩ rfl rfl hl.1 rfl (lv_room (Nat.le_of_ble_eq_true rfl)) d_la_3 ⟨Nat.zero_le _, Nat.zero_le _⟩) hS (fun q _ h => hF q h) hF (fun r_31 u t H1 locs ht hvm hw hB hz1 hk1 hS => ?_)
  obtain ⟨rfl, u, hu, rfl⟩ := hw
  obtain ⟨hP1, hK1, hD1⟩ := hB
  rw [ht] at hP1
  have hD1 := hD1.weaken (fun _ q _ h => hF q.1 h)
  refine lv_i2l hx hb d_la_6 rfl ?_
  refine va_last (D := (dC, dI)) (cl := vwCl) (tys := tyL cI cJ cG cZ) hx hb hK hP1 hD1 hS 0 1 rfl rfl (inb_vp (by decide)) d_la_7 (fun H2 locs2 hP2 hD2 hS2 => ?_)
  refine lv_goto (tgt := 14) hx hb d_la_8 (by decide) ?_
  refine lv_iconst (v := 0) hx hb d_la_14 (by decide) ?_
  refine W.widen (k := 1) (n := 6) (Nat.zero_le _) (Nat.zero_le _) ?_
  exact W.iret hx hb hr (fun t ht hW => ⟨⟨_, _, rfl, ⟨rfl, u, hu, rfl⟩, by rw [ht]; exact hP2, va_K.moved hW.alike hK, hD2⟩, hS2.F ht⟩) hS2.2.2 d_la_15
def PostT (A : _root_.Jvm.Free.Pt) (_ : Array Value) (v : Addr) (B : _root_.Jvm.Free.Pt) : Prop := ∃ (ce : Cell), (∀ (q : Addr) (c : Cell), A.U.heap[q]? = some c → B.U.heap[q]? = some c) ∧ B.U.heap[v]? = some ce ∧ ce.vm.isStatics = false ∧ A.U.vm.findClass ISE = some ce.cls ∧ B.locs = A.locs ∧ B.cells = A.cells + 1 ∧ B.slots = A.slots + 6
theorem back_T {l : Launch} {R : Room} {p : Program} {e : Env} {below : List Frame} {s : State} {sargs : Array Value} {Pc : Array Value → State → Prop} {own : String} {index n : Nat} (hM : MetFree l y_CS_arcs (headSpec us_CS_arcs rmT) Pc (fun _ _ _ _ _ => True) QTa) (hblind : FrameBlind Pc) (cw : CallB R s sargs own index y_CS_arcs prog_1_method_14_code 2 (some .int) us_CS_arcs rmT 1 6 n) : BackT l R p e below s sargs y_CS_arcs 3 8 (fun A a => A.cells + 1 ≤ R.cells ∧ A.slots + 6 ≤ R.slots ∧ Pc a A.U) PostT := by
  obtain ⟨-, -, hfr, hlo, hws, hcode, -, hini, -⟩ := cw
  refine BackT.of_free (S := headSpec us_CS_arcs rmT) (P := Pc) (K := fun _ _ _ _ _ => True) (Q := QTa) (bytes := prog_1_method_14_code) (maxL := 2) (ret := some .int) (E := fun a st o t L k n => L = [] ∧ k = 1 ∧ n = 6) hM hfr hlo ?_ ?_ (fun _ _ _ _ _ _ _ _ _ => trivial) ?_ ?_
  · intro m meth c A a X hp
    exact ⟨atoms_intro fun w hw => hws w hw _ _ X.warmed, hws _ hcode _ _ X.warmed, word_at X.warmed (Or.inl (by first | rfl | simp [Cond.onTables, Cond.keeps, Cond.steady])) hini, hp.1, hp.2.1⟩
  · intro m meth c A a g mk X hp
    exact hblind _ _ _ _ hp.2.2
  · intro a st o t hq
    exact ⟨[], 1, 6, hq.2.2, rfl, rfl, rfl⟩
  · intro m meth c A a g mk v t L k n X hp hq hF hE
    obtain ⟨e1, e2, e3⟩ := hE
    subst e1; subst e2; subst e3
    obtain ⟨⟨xa, ce, h1, h2, h3, h4⟩, h5, -⟩ := hq
    cases h1
    exact ⟨ce, fun q c h => h5 q c h, h2, h3, h4, List.append_nil _, rfl, rfl⟩
set_option maxHeartbeats 4000000 in
set_option maxRecDepth 100000 in
theorem c_law_arcs1 {l : Launch} (hlt : l.stackTraces = false) {dC : Nat → ClassId} {dI : Nat → Nat → Nat} {cI cJ cG cZ : ClassId} {a0 ao : Nat} {wx : va_W} {fs : List Value} {f : Nat → Int64} (hC : ∀ sz : Nat, MetFree l y_CS_arcs (headSpec us_CS_arcs rmT) (PcU (dC, dI) (tyL cI cJ cG cZ) [.ref a0] sz wx) (fun _ _ _ _ _ => True) QTa) (hrv : wx[0]? = some (a0, .inr (0, fs))) : CU l (dC, dI) (tyL cI cJ cG cZ) y_law_arcs us_law_arcs rm_law_arcs [.ref a0, .ref ao] 1 6 ((ao, .inl (cJ, 1, .inr (.inl f))) :: wx) 1 (fun v => v = (ao, .inl (cJ, 1, .inr (.inl f))) :: wx) := by
  intro sz
  refine va_MetW (cc := method_3_code) (maxL := 3) (ret := some .int) (by decide) rfl ?_
  intro p e s m args below meth c s₁ B hml hv
  obtain ⟨rfl, ⟨hsz, hP, hK, hD0, hNw⟩, hTH⟩ := hv
  have hx := B.exec
  have hb := B.bytes
  have hr := B.returns
  have htt : ∀ w ∈ gtbl, w.before _ s = true := fun w h => atoms_spec (ws := us_law_arcs) B.pre w (List.mem_cons_of_mem _ h)
  have hown : s.vm.findClass R_law = some m.cls := findClass_of_methodNamed B.named
  have hlocks := B.notSynchronized
  obtain ⟨x, hx1, hx2, hx3, hx4, hx5⟩ : ∃ x : ExceptionTableEntry, c.exceptionTable.toList = [] ++ x :: [] ∧ x.startPc = 0 ∧ x.endPc = 8 ∧ x.handlerPc = 11 ∧ x.catchType = 13 := by
    obtain ⟨m9, meth9, c9, hn9, h1, h2, -, -, h3, -⟩ := Cond.codeWith_spec (atoms_spec (ws := us_law_arcs) B.pre _ List.mem_cons_self)
    have X₀ : Stand p l e rm_law_arcs s m _ below meth c s₁ [] 0 0 := Stand.of_body B
    cases (B.named).symm.trans hn9
    cases X₀.method.symm.trans h1
    cases X₀.code.symm.trans h2
    revert h3
    generalize c.exceptionTable.toList = L
    intro h3
    cases L with
    | nil => cases h3
    | cons x L2 =>
      cases L2 with
      | cons y L3 => simp at h3
      | nil =>
        simp only [List.map_cons, List.map_nil, List.cons.injEq, Prod.mk.injEq, and_true] at h3
        exact ⟨x, rfl, h3.1, h3.2.1, h3.2.2.1, h3.2.2.2⟩
  subst hsz
  have hD := hD0.self (sz := s.heap.size)
  generalize hAe : va_A ((ao, .inl (cJ, 1, .inr (.inl f))) :: wx) s.heap.size = A at hD ⊢
  have hA : ∀ q : Nat, s.heap.size ≤ q → A q := fun q h => by rw [← hAe]; exact Or.inr h
  clear hAe hD0
  have hl := lv_entry ([.ref a0, .ref ao]) (n := 3) (Nat.le_of_ble_eq_true rfl)
  rw [lg_entry_eq]
  generalize (lg_sl ([.ref a0, .ref ao]) ++ List.replicate (3 - (lg_sl ([.ref a0, .ref ao])).length) Slot.unset).toArray = ls at hl ⊢
  have hl : lv_has ls 3 [(0, .ref a0), (1, .ref ao)] := hl
  refine lv_aload_n hx hb d_la_0 rfl (lv_at hl 1 rfl) ?_
  refine lv_iconst (v := 0) hx hb d_la_1 (by decide) ?_
  refine lv_aload_n hx hb d_la_2 rfl (lv_at hl 0 rfl) ?_
  have hPx : va_P (dC, dI) vwCl wx s.heap := hP.sb (sb_r [(ao, .inl (cJ, 1, .inr (.inl f)))] wx)
  have hDx : va_D A wx := hD.sb (sb_r [(ao, .inl (cJ, 1, .inr (.inl f)))] wx)
  have cw : CallW rm_law_arcs s _ R_law R_CS 7 y_CS_arcs prog_1_method_14_code 2 (some .int) us_CS_arcs rmT 1 6 0 := cwV 0 htt (gdV kt_677 kt_678 kt_679 kt_1 kt_680) rfl rfl rfl (by decide +kernel) ⟨(Nat.le_of_ble_eq_true rfl), (Nat.le_of_ble_eq_true rfl)⟩
  obtain ⟨cellB, hcB, hoB, hclB⟩ := va_recv hK hPx (ci := 0) (q0 := 0) rfl hrv
  intro T hT X
  obtain ⟨v, vm₁, ⟨U', l2, c2, s2⟩, hW₁, X', ⟨ce, g1, g2, g3, g4, g5, g6, g7⟩, st⟩ := callVT X hx (C := R_CS) (bytes := prog_1_method_14_code) (maxL := 2) (ret := some .int) hown cw.1.2.2.2.2.2.2.2.2.2.2 cw.2.1 cw.2.2 cw.1.2.2.2.2.2.2.1 cw.1.2.2.2.2.2.2.2.2.1 (back_T (hC s.heap.size) PcU_blind cw.1) (by rw [hT]; exact hcB) hoB hclB (g := F0 m 3 ls [.ref a0, .int 0, .ref ao]) rfl (hl.1.trans hml.symm) (argsL := []) (rest := [.int 0, .ref ao]) (fun sig h => cw.1.2.2.2.2.2.2.2.2.2.1 sig h) rfl (by show 2 * 0 + 2 ≤ 8; decide) (by rw [hb]; exact d_la_3) (fun vm₁ hW => ⟨by show 0 + 1 ≤ 1; decide, by show 0 + 6 ≤ 6; decide, rfl, (PcS_in (av := [.ref a0]) hPx hK hDx hNw (T.setVm vm₁) hT hW).2, th_ride (s := s) (U := T.setVm vm₁) hW (fun q c h => by show T.heap[q]? = some c; rw [hT]; exact h) hTH⟩)
  dsimp only [_root_.Jvm.Free.Pt.U, _root_.Jvm.Free.Pt.locs, _root_.Jvm.Free.Pt.cells, _root_.Jvm.Free.Pt.slots] at X' g1 g2 g3 g4 g5 g6 g7 st
  subst g5; subst g6; subst g7
  have hcT : s.vm.findClass ISE = some ce.cls := by rw [← g4]; exact (hW₁.alike.findClass ISE none).symm
  obtain ⟨vm', X2, st2⟩ := X'.caughtLink v (g := { F0 m 3 ls [.ref a0, .int 0, .ref ao] with stack := [.int 0, .ref ao] }) rfl (own := R_law) (name := ISE) hown [] x [] hx1 (fun y hy => by cases hy) (by show (decide (x.startPc ≤ 3) && decide (3 < x.endPc)) = true; rw [hx2, hx3]; decide) (by rw [hx5]; decide) (by rw [hx5]; exact htt _ kl_ise) hcT g2 g3 (va_asg _ _)
  have hold : ∀ (q : Addr) (c : Cell), s.heap[q]? = some c → U'.heap[q]? = some c := fun q c h => g1 q c (by show T.heap[q]? = some c; rw [hT]; exact h)
  have hkeep : ∀ q : Nat, q < s.heap.size → U'.heap[q]? = s.heap[q]? := fun q hq => by
    obtain ⟨c, hc⟩ : ∃ c, s.heap[q]? = some c := ⟨_, Array.getElem?_eq_getElem hq⟩
    rw [hc, hold q c hc]
  have hsize : s.heap.size ≤ U'.heap.size := by
    rcases Nat.lt_or_ge U'.heap.size s.heap.size with h | h
    · have h1 := hkeep U'.heap.size h
      have h2 : U'.heap[U'.heap.size]? = none := by simp
      rw [h2] at h1
      have h3 := (Array.getElem?_eq_none_iff.mp h1.symm)
      omega
    · exact h
  have hP1 : va_P (dC, dI) vwCl ((ao, .inl (cJ, 1, .inr (.inl f))) :: wx) U'.heap := hP.kept (fun k q hq => hkeep q.1 ((hP k q hq).lt))
  have hS1 : va_S A s.heap U'.heap [] := ⟨hsize, fun q h1 _ => hkeep q h1, fun q hq => by cases hq⟩
  have K : W p l e rm_law_arcs s m ([.ref a0, .ref ao] : List Value).toArray below meth c U'.heap [] (0 + 1) (0 + 6) (MQ below (va_Qi (fun (r' : Int32) (u : va_W) => r' = 1 ∧ u = (ao, .inl (cJ, 1, .inr (.inl f))) :: wx) (fun u t => PoS (dC, dI) (tyL cI cJ cG cZ) u A t) A) ([.ref a0, .ref ao] : List Value).toArray s 1 6 A) (F0 m 11 ls [.ref v]) := by
    refine lv_astore_n (lv' := [(2, .ref v), (0, .ref a0), (1, .ref ao)]) hx hb d_la_11 rfl hl (by decide) rfl (fun ls hl => ?_)
    refine lv_iconst (v := 1) hx hb d_la_12 (by decide) ?_
    exact W.iret hx hb hr (fun t ht hW => ⟨⟨_, _, rfl, ⟨rfl, rfl⟩, by rw [ht]; exact hP1, va_K.moved hW.alike hK, hD⟩, hS1.F ht⟩) hS1.2.2 d_la_13
  obtain ⟨t, a1, b1⟩ := K (U'.setVm vm') rfl X2
  refine ⟨t, st.trans ?_, b1⟩
  rw [X'.pushThrowing_eq]
  refine st2 t ?_
  rw [hx4]
  exact a1
