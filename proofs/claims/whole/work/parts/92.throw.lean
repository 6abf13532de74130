/-! ColourSearch.arcs throws: its contract there -/
def ISE : String := "java/lang/IllegalStateException"
def NMS : List String := ["java/lang/RuntimeException", "java/lang/Exception"]
def thw : List Cond := [.declares (Bundle.initS "java/lang/RuntimeException"), .declares (Bundle.initS "java/lang/Exception"), .declares (Bundle.initS Bundle.tN), .castable ISE ISE, .laysStatic Bundle.tN "UNASSIGNED_STACK" Bundle.steD, .laysStatic Bundle.tN "SUPPRESSED_SENTINEL" Bundle.listD, .isRef (.static Bundle.tN "UNASSIGNED_STACK" Bundle.steD), .isRef (.static Bundle.tN "SUPPRESSED_SENTINEL" Bundle.listD)]
set_option maxRecDepth 20000 in
theorem own_in : ∀ a ∈ Bundle.ownAtoms R_CS 148 ISE NMS, (a ∈ lw_tbl ∧ goodWord a = true) ∨ a ∈ thw := by decide +kernel
set_option maxRecDepth 20000 in
theorem ke_link : Cond.classLink R_CS 144 ISE ∈ gtbl := gmem (List.mem_append_right _ (List.mem_of_getElem? (i := 681) (by decide +kernel))) rfl
set_option maxRecDepth 20000 in
theorem ke_init : Cond.initialized ISE ∈ gtbl := gmem (List.mem_append_right _ (List.mem_of_getElem? (i := 16) (by decide +kernel))) rfl
def TH (U : State) : Prop := (∀ w ∈ thw, w.before #[] U = true) ∧ ∃ q : Nat, vk_R R_CS 146 "more than 16 arcs" q U
theorem ls_grow {U V : State} {vm : Vm} (kp : ∀ (z : Addr) (c : Cell), U.heap[z]? = some c → V.heap[z]? = some c) {C n d : String} {args : Array Value} (h : (Cond.laysStatic C n d).before args (U.setVm vm) = true) : (Cond.laysStatic C n d).before args (V.setVm vm) = true := by
  simp only [Cond.before, Cond.holds, Cond.value] at h ⊢
  have ef : (V.setVm vm).fieldFound? C n d = (U.setVm vm).fieldFound? C n d := rfl
  have ec : (V.setVm vm).vm.findClass C = (U.setVm vm).vm.findClass C := rfl
  rw [ef, ec]
  generalize (U.setVm vm).vm.findClass C = x at h ⊢
  generalize (U.setVm vm).fieldFound? C n d = y at h ⊢
  cases x with
  | none => simp at h
  | some c =>
    cases y with
    | none => simp at h
    | some w =>
      obtain ⟨c', k, i, f⟩ := w
      dsimp only at h ⊢
      cases hs : k.statics with
      | none => rw [hs] at h; simp at h
      | some a =>
        rw [hs] at h
        simp only [Option.bind_some] at h ⊢
        have hU : (U.setVm vm).heap[a]? = U.heap[a]? := rfl
        have hV : (V.setVm vm).heap[a]? = V.heap[a]? := rfl
        rw [hU] at h
        rw [hV]
        cases hc : U.heap[a]? with
        | none => rw [hc] at h; simp at h
        | some cell => rw [hc] at h; rw [kp _ _ hc]; exact h
theorem st_grow {U V : State} {vm : Vm} (kp : ∀ (z : Addr) (c : Cell), U.heap[z]? = some c → V.heap[z]? = some c) {C n d : String} {args : Array Value} {v : Value} (h : (Term.static C n d).eval args (U.setVm vm) none [] (U.setVm vm) = some v) : (Term.static C n d).eval args (V.setVm vm) none [] (V.setVm vm) = some v := by
  simp only [Term.eval, Option.bind_eq_bind, Option.bind_eq_some_iff] at h ⊢
  obtain ⟨q, h1, st, h2, cell, h3, h4⟩ := h
  exact ⟨q, h1, st, h2, cell, kp _ _ h3, h4⟩
theorem ir_grow {U V : State} {vm : Vm} (kp : ∀ (z : Addr) (c : Cell), U.heap[z]? = some c → V.heap[z]? = some c) {C n d : String} {args : Array Value} (h1 : (Cond.isRef (.static C n d)).before args (U.setVm vm) = true) : (Cond.isRef (.static C n d)).before args (V.setVm vm) = true := by
  simp only [Cond.before, Cond.holds, Cond.value] at h1 ⊢
  generalize hx : Term.eval args (U.setVm vm) none [] (U.setVm vm) (Term.static _ _ _) = x at h1
  cases x with
  | none => simp at h1
  | some v => rw [st_grow kp hx]; exact h1
theorem ir_warm {s : State} {vm' : Vm} {args : Array Value} {C n d : String} (h : s.vm.Alike vm') (h1 : (Cond.isRef (.static C n d)).before args s = true) : (Cond.isRef (.static C n d)).before args (s.setVm vm') = true := by
  simp only [Cond.before, Cond.holds, Cond.value] at h1 ⊢
  generalize hx : Term.eval args s none [] s (Term.static _ _ _) = x at h1
  cases x with
  | none => simp at h1
  | some v => rw [Term.static_setVm h hx]; exact h1
theorem th_ride {s U : State} (hW : s.WarmedH U.vm) (hk : ∀ (q : Addr) (c : Cell), s.heap[q]? = some c → U.heap[q]? = some c) (h : TH s) : TH U := by
  obtain ⟨h1, q, h2⟩ := h
  refine ⟨fun w hw => ?_, q, h2.warm hW⟩
  have h3 := h1 w hw
  show w.before #[] (U.setVm U.vm) = true
  simp only [thw, List.mem_cons, List.not_mem_nil, or_false] at hw
  rcases hw with rfl | rfl | rfl | rfl | rfl | rfl | rfl | rfl
  · have e1 := (Cond.declares_setVm (args := #[]) hW.alike _).trans h3
    exact e1
  · have e1 := (Cond.declares_setVm (args := #[]) hW.alike _).trans h3
    exact e1
  · have e1 := (Cond.declares_setVm (args := #[]) hW.alike _).trans h3
    exact e1
  · have e1 := (Cond.castable_setVm (args := #[]) hW.alike _ _).trans h3
    exact e1
  · exact ls_grow hk (Cond.laysStatic_setVm hW.alike h3)
  · exact ls_grow hk (Cond.laysStatic_setVm hW.alike h3)
  · exact ir_grow hk (ir_warm hW.alike h3)
  · exact ir_grow hk (ir_warm hW.alike h3)
theorem thw_args {s : State} {a : Array Value} (w : Cond) (hw : w ∈ thw) (h : w.before #[] s = true) : w.before a s = true := by
  simp only [thw, List.mem_cons, List.not_mem_nil, or_false] at hw
  rcases hw with rfl | rfl | rfl | rfl | rfl | rfl | rfl | rfl
  · exact h
  · exact h
  · exact h
  · exact h
  · exact h
  · exact h
  · simp only [Cond.before, Cond.holds, Cond.value, Term.eval] at h ⊢; exact h
  · simp only [Cond.before, Cond.holds, Cond.value, Term.eval] at h ⊢; exact h
theorem th_same {u U : State} (hv : U.vm = u.vm) (hh : U.heap = u.heap) (h : TH u) : TH U := by
  obtain ⟨h1, q, h2⟩ := h
  refine ⟨fun w hw => ?_, q, h2.same hv⟩
  have e1 : w.before #[] (u.setVm U.vm) = true := by
    have := h1 w hw
    rw [hv]
    rw [State.setVm_self]
    exact this
  show w.before #[] (U.setVm U.vm) = true
  simp only [thw, List.mem_cons, List.not_mem_nil, or_false] at hw
  have hk : ∀ (q : Addr) (c : Cell), u.heap[q]? = some c → U.heap[q]? = some c := fun q c h => by rw [hh]; exact h
  rcases hw with rfl | rfl | rfl | rfl | rfl | rfl | rfl | rfl
  · exact e1
  · exact e1
  · exact e1
  · exact e1
  · exact ls_grow hk e1
  · exact ls_grow hk e1
  · exact ir_grow hk e1
  · exact ir_grow hk e1
abbrev PcU (D : va_G) (tys : List (ClassId × FieldType)) (av : List Value) (sz : Nat) (ws : va_W) : Array Value → State → Prop := va_Pc av (fun U => (U.heap.size = sz ∧ va_P D vwCl ws U.heap ∧ va_K D vwCl tys U ∧ va_D (fun _ => True) ws ∧ NwA U) ∧ TH U)
theorem PcU_blind {D : va_G} {tys : List (ClassId × FieldType)} {av : List Value} {sz : Nat} {ws : va_W} : FrameBlind (PcU D tys av sz ws) := fun a U g mk q => by
  obtain ⟨q0, ⟨q1, qP, qK, qD, qN⟩, qA⟩ := q
  exact ⟨q0, ⟨q1, qP, va_K.moved (u := U) (U := U.calling g mk a) (Vm.Alike.refl U.vm) qK, qD, NwA.same (u := U) (U := U.calling g mk a) rfl qN⟩, th_same (u := U) (U := U.calling g mk a) rfl rfl qA⟩
abbrev rmT : Room := { frames := 8, cells := 1, slots := 6, locals := 120 }
def QTa (a : Array Value) (st : State) (o : Outcome) (t : State) : Prop := (∃ (xa : Addr) (ce : Cell), o = .threw xa ∧ t.heap[xa]? = some ce ∧ ce.vm.isStatics = false ∧ st.vm.findClass ISE = some ce.cls) ∧ (∀ (q : Addr) (c : Cell), st.heap[q]? = some c → t.heap[q]? = some c) ∧ FrameEndT st o t [] 1 6
set_option maxHeartbeats 4000000 in
set_option maxRecDepth 100000 in
theorem ct_CS_arcs (l : Launch) (hlt : l.stackTraces = false) (dC : Nat → ClassId) (dI : Nat → Nat → Nat) (cI cJ cG cZ : ClassId) (a0 a0_net a0_painter a0_polynomial a0_listCounter a0_setFinder a0_takingApart a0_greedyRun a0_allowed a0_shown a0_shades a0_attempt a0_net_near a0_net_tail a0_net_head : Nat) (sz : Nat) (v0_net_nodes : Int32) (v0_net_arcCount : Int32) (v0_net_version : Int32) (hk : ¬ v0_net_arcCount ≤ 16) : MetFree l y_CS_arcs (headSpec us_CS_arcs rmT) (PcU (dC, dI) (tyL cI cJ cG cZ) [.ref a0] sz (wd_CS_node cI cJ cG cZ a0 a0_net a0_painter a0_polynomial a0_listCounter a0_setFinder a0_takingApart a0_greedyRun a0_allowed a0_shown a0_shades a0_attempt a0_net_near a0_net_tail a0_net_head v0_net_nodes v0_net_arcCount v0_net_version)) (fun _ _ _ _ _ => True) QTa := by
  refine MetFree.of_bodyS (code := prog_1_method_14_code) (maxLocals := 2) (ret := some .int) (by decide) ?_ ?_
  · intro args s m h hn
    obtain ⟨meth, c, h1, h2, h3, h4, h5, h6, -, -⟩ := Cond.code_spec hn (atoms_spec (ws := us_CS_arcs) h _ List.mem_cons_self)
    exact ⟨meth, c, h1, h2, h3, h4, h5, h6⟩
  · intro p e s m args below meth c s₁ B hml hv _
    obtain ⟨rfl, ⟨hsz, hP, hK, hD, hNw⟩, hTH⟩ := hv
    have hx := B.exec
    have hb := B.bytes
    have htt : ∀ w ∈ gtbl, w.before _ s = true := fun w h => atoms_spec (ws := us_CS_arcs) B.pre w (List.mem_cons_of_mem _ h)
    have hown : s.vm.findClass R_CS = some m.cls := findClass_of_methodNamed B.named
    have hlocks := B.notSynchronized
    have htr : e.platform.stackTraces = false := by rw [B.admits.platform]; exact hlt
    have hempty : ∀ x ∈ c.exceptionTable.toList, covers x 21 = false := by
      obtain ⟨meth', c', h1, h2, -, -, -, -, h7, -⟩ := Cond.code_spec B.named (atoms_spec (ws := us_CS_arcs) B.pre _ List.mem_cons_self)
      have X₀ : Stand p l e rmT s m _ below meth c s₁ [] 0 0 := Stand.of_body B
      cases X₀.method.symm.trans h1
      cases X₀.code.symm.trans h2
      intro y hy
      have : c.exceptionTable = #[] := by simpa using h7
      rw [this] at hy
      cases hy
    obtain ⟨htw, qs, hqs⟩ := hTH
    have hown2 : ∀ a ∈ Bundle.ownAtoms R_CS 148 ISE NMS, a.before ([Value.ref a0] : List Value).toArray s = true := fun a ha => by
      rcases own_in a ha with ⟨h1, h2⟩ | h1
      · exact htt a (gmem h1 h2)
      · exact thw_args a h1 (htw a h1)
    have hl := lv_entry ([.ref a0]) (n := 2) (Nat.le_of_ble_eq_true rfl)
    have K : W p l e rmT s m ([.ref a0] : List Value).toArray below meth c s.heap [] 0 0 (fun t => ∃ o, t.status = .running ∧ Ended t below o ∧ QTa ([.ref a0] : List Value).toArray s o t) (entryFrame m ([.ref a0] : List Value).toArray 2) := by
      rw [lg_entry_eq]
      generalize (lg_sl ([.ref a0]) ++ List.replicate (2 - (lg_sl ([.ref a0])).length) Slot.unset).toArray = ls at hl ⊢
      have hl : lv_has ls 2 [(0, .ref a0)] := hl
      refine lv_aload_n hx hb d_CS_arcs_0 rfl (lv_at hl 0 rfl) ?_
      refine va_get (D := (dC, dI)) (ci := 0) (v := .ref a0_net) (C := R_CS) (T := T_CS) (N := 11) hx hb htt hin_CS hown hK hP 0 rfl rfl 0 (by decide) (htt _ kt_224) (fun _ h9 => h9) rfl d_CS_arcs_1 ?_
      refine va_get (D := (dC, dI)) (ci := 1) (v := .int v0_net_arcCount) (C := R_Net) (T := T_Net) (N := 6) hx hb htt hin_Net hown hK hP 1 rfl rfl 4 (by decide) (htt _ kt_53) (fun _ h9 => h9) rfl d_CS_arcs_4 ?_
      refine lv_bipush (v := 16) hx hb d_CS_arcs_7 (by decide) ?_
      refine lv_icmp_le (tgt := 22) hx hb d_CS_arcs_9 (by decide) (fun c_1 => absurd c_1 hk) (fun c_1 => ?_)
      obtain ⟨cX, kX, hcX, hkX, -⟩ := Cond.instantiable_spec (hown2 (.instantiable ISE 6) (by decide +kernel))
      refine W.newcK (C := ISE) (n := 6) hx hb hown (htt _ ke_link) (hown2 (.instantiable ISE 6) (by decide +kernel)) (htt _ ke_init) rfl d_CS_arcs_12 (Nat.le_of_ble_eq_true rfl) (Nat.le_of_ble_eq_true rfl) hcX rfl (fun H1 kC hkC e1 z1 o1 => ?_)
      cases hkX.symm.trans hkC
      refine lv_dup hx hb d_CS_arcs_15 rfl ?_
      refine va_ldcS hx hb hown hqs d_CS_arcs_16 ?_
      intro T hT X
      obtain ⟨U, u1, u2, u3, u4, u5, ce, u6, u7⟩ := X.ctorThrowS hx htr (own := R_CS) (cls := ISE) (names := NMS) (ic := 148) hown (by decide +kernel) (by decide +kernel) hown2 (fun x hx => by cases hx) (a := s.heap.size) hcX hkX (by rw [hT]; exact e1) (Nat.le_refl _) (msg := .ref qs) rfl (g := F0 m 18 ls [.ref qs, .ref s.heap.size, .ref s.heap.size]) rfl (hl.1.trans hml.symm) rfl rfl (rest := []) rfl (by rw [hb]; exact d_CS_arcs_18) (by rw [hb]; exact d_CS_arcs_21) hempty (by decide) (by show 2 * 0 + 1 + (13 * 3 + 42) ≤ 120; decide)
      refine ⟨U, u1, .threw s.heap.size, u2, u3, ⟨s.heap.size, ce, rfl, u6, by rw [u7.vm]; rfl, u7.cls⟩, fun q c h => ?_, ⟨⟨_, rfl⟩, u4, u5⟩⟩
      exact u5.old_cell h
    have hh0 : s₁.heap = s.heap := by rw [B.state]; rfl
    obtain ⟨t, a1, o, b1, b2, b3⟩ := K s₁ hh0 (Stand.of_body B)
    exact ⟨t, o, a1, b1, b2, b3⟩
