theorem d_Net_isNode_0 : decode prog_4_method_2_code 0 = .ok (.iload_n 1, 1) := by decide +kernel
theorem d_Net_isNode_1 : decode prog_4_method_2_code 1 = .ok (.ifCond .lt 15, 3) := by decide +kernel
theorem d_Net_isNode_4 : decode prog_4_method_2_code 4 = .ok (.iload_n 1, 1) := by decide +kernel
theorem d_Net_isNode_5 : decode prog_4_method_2_code 5 = .ok (.aload_n 0, 1) := by decide +kernel
theorem d_Net_isNode_6 : decode prog_4_method_2_code 6 = .ok (.getfield 21, 3) := by decide +kernel
theorem d_Net_isNode_9 : decode prog_4_method_2_code 9 = .ok (.if_icmp .ge 7, 3) := by decide +kernel
theorem d_Net_isNode_12 : decode prog_4_method_2_code 12 = .ok (.iconst 1, 1) := by decide +kernel
theorem d_Net_isNode_13 : decode prog_4_method_2_code 13 = .ok (.goto 4, 3) := by decide +kernel
theorem d_Net_isNode_16 : decode prog_4_method_2_code 16 = .ok (.iconst 0, 1) := by decide +kernel
theorem d_Net_isNode_17 : decode prog_4_method_2_code 17 = .ok (.ireturn, 1) := by decide +kernel
abbrev wd_Net_isNode (cI cJ cG cZ : ClassId) (a0 a0_near a0_tail a0_head : Nat) (v0_nodes : Int32) (v0_arcCount : Int32) (v0_version : Int32) : va_W := [(a0, .inr (1, [.ref a0_near, .ref a0_tail, .ref a0_head, .int v0_nodes, .int v0_arcCount, .int v0_version]))]
abbrev us_Net_isNode : List Cond := .code y_Net_isNode prog_4_method_2_code 2 (some .boolean) :: gtbl
abbrev rm_Net_isNode : Room := { frames := 0, cells := 0, slots := 0, locals := 0 }
def m_Net_isNode (F : Nat) (v0_nodes : Int32) (v0_arcCount : Int32) (v0_version : Int32) (p1 : Int32) : Option (Int32) :=
  if p1 < 0 then (
    some 0
  ) else (
    if v0_nodes ≤ p1 then (
      some 0
    ) else (
      some 1
    )
  )
set_option maxHeartbeats 4000000 in
set_option maxRecDepth 100000 in
theorem c_Net_isNode (l : Launch) (dC : Nat → ClassId) (dI : Nat → Nat → Nat) (cI cJ cG cZ : ClassId) (a0 a0_near a0_tail a0_head : Nat) (sz : Nat) (F : Nat) (v0_nodes : Int32) (v0_arcCount : Int32) (v0_version : Int32) (p1 : Int32) (ret : Int32) (hm : m_Net_isNode F v0_nodes v0_arcCount v0_version p1 = some ret) : Met l y_Net_isNode us_Net_isNode rm_Net_isNode (PcS (dC, dI) (tyL cI cJ cG cZ) [.ref a0, .int p1] sz (wd_Net_isNode cI cJ cG cZ a0 a0_near a0_tail a0_head v0_nodes v0_arcCount v0_version)) (va_Qi (fun (r : Int32) (_ : Unit) => ret = r ∧ bz r) (fun _ t => PoS (dC, dI) (tyL cI cJ cG cZ) (wd_Net_isNode cI cJ cG cZ a0 a0_near a0_tail a0_head v0_nodes v0_arcCount v0_version) (va_A (wd_Net_isNode cI cJ cG cZ a0 a0_near a0_tail a0_head v0_nodes v0_arcCount v0_version) sz) t) (va_A (wd_Net_isNode cI cJ cG cZ a0 a0_near a0_tail a0_head v0_nodes v0_arcCount v0_version) sz)) 0 0 (va_A (wd_Net_isNode cI cJ cG cZ a0 a0_near a0_tail a0_head v0_nodes v0_arcCount v0_version) sz) := by
  refine Met.ofW (cc := prog_4_method_2_code) (maxL := 2) (ret := (some .boolean)) (by decide) rfl ?_
  intro p e s m args below meth c s₁ B hml hv
  obtain ⟨rfl, hsz, hP, hK, hD0, hNw⟩ := hv
  have hx := B.exec
  have hb := B.bytes
  have hr := B.returns
  have htt : ∀ w ∈ gtbl, w.before _ s = true := fun w h => atoms_spec (ws := us_Net_isNode) B.pre w (List.mem_cons_of_mem _ h)
  have hown : s.vm.findClass R_Net = some m.cls := findClass_of_methodNamed B.named
  have hlocks := B.notSynchronized
  subst hsz
  have hD := hD0.self (sz := s.heap.size)
  generalize hAe : va_A (wd_Net_isNode cI cJ cG cZ a0 a0_near a0_tail a0_head v0_nodes v0_arcCount v0_version) s.heap.size = A at hD ⊢
  have hA : ∀ q : Nat, s.heap.size ≤ q → A q := fun q h => by rw [← hAe]; exact Or.inr h
  clear hAe hD0
  have hS : va_S A s.heap s.heap [] := va_S.rf
  have hl := lv_entry ([.ref a0, .int p1]) (n := 2) (Nat.le_of_ble_eq_true rfl)
  rw [lg_entry_eq]
  generalize (lg_sl ([.ref a0, .int p1]) ++ List.replicate (2 - (lg_sl ([.ref a0, .int p1])).length) Slot.unset).toArray = ls at hl ⊢
  have hl : lv_has ls 2 [(0, .ref a0), (1, .int p1)] := hl
  generalize hH : s.heap = H at hP ⊢
  have hS : va_S A s.heap H [] := hH ▸ hS
  generalize hLo : ([] : List Loc) = locs at hS ⊢
  clear hH hLo
  unfold m_Net_isNode at hm
  refine lv_iload_n hx hb d_Net_isNode_0 rfl (lv_at hl 1 rfl) ?_
  refine lv_if_lt (tgt := 16) hx hb d_Net_isNode_1 (by decide) (fun c_1 => ?_) (fun c_1 => ?_)
  · have hm := ite_t c_1 hm
    refine lv_iconst (v := 0) hx hb d_Net_isNode_16 (by decide) ?_
    cases hm
    exact W.zret (ty := .boolean) hx hb hr (bz_nar (by decide : bz 0)) (fun t ht hW => ⟨⟨_, (), rfl, ⟨rfl, (by decide : bz 0)⟩, by rw [ht]; exact hP, va_K.moved hW.alike hK, hD⟩, hS.F ht⟩) hS.2.2 d_Net_isNode_17
  · have hm := ite_f c_1 hm
    refine lv_iload_n hx hb d_Net_isNode_4 rfl (lv_at hl 1 rfl) ?_
    refine lv_aload_n hx hb d_Net_isNode_5 rfl (lv_at hl 0 rfl) ?_
    refine va_get (D := (dC, dI)) (ci := 1) (v := .int v0_nodes) (C := R_Net) (T := T_Net) (N := 6) hx hb htt hin_Net hown hK hP 0 rfl rfl 3 (by decide) (htt _ kt_47) (fun _ h9 => h9) rfl d_Net_isNode_6 ?_
    refine lv_icmp_ge (tgt := 16) hx hb d_Net_isNode_9 (by decide) (fun c_2 => ?_) (fun c_2 => ?_)
    · have hm := ite_t c_2 hm
      refine lv_iconst (v := 0) hx hb d_Net_isNode_16 (by decide) ?_
      cases hm
      exact W.zret (ty := .boolean) hx hb hr (bz_nar (by decide : bz 0)) (fun t ht hW => ⟨⟨_, (), rfl, ⟨rfl, (by decide : bz 0)⟩, by rw [ht]; exact hP, va_K.moved hW.alike hK, hD⟩, hS.F ht⟩) hS.2.2 d_Net_isNode_17
    · have hm := ite_f c_2 hm
      refine lv_iconst (v := 1) hx hb d_Net_isNode_12 (by decide) ?_
      refine lv_goto (tgt := 17) hx hb d_Net_isNode_13 (by decide) ?_
      cases hm
      exact W.zret (ty := .boolean) hx hb hr (bz_nar (by decide : bz 1)) (fun t ht hW => ⟨⟨_, (), rfl, ⟨rfl, (by decide : bz 1)⟩, by rw [ht]; exact hP, va_K.moved hW.alike hK, hD⟩, hS.F ht⟩) hS.2.2 d_Net_isNode_17
theorem d_Net_everyNode_0 : decode prog_4_method_3_code 0 = .ok (.iconst 1, 1) := by decide +kernel
theorem d_Net_everyNode_1 : decode prog_4_method_3_code 1 = .ok (.aload_n 0, 1) := by decide +kernel
theorem d_Net_everyNode_2 : decode prog_4_method_3_code 2 = .ok (.getfield 21, 3) := by decide +kernel
theorem d_Net_everyNode_5 : decode prog_4_method_3_code 5 = .ok (.ishl, 1) := by decide +kernel
theorem d_Net_everyNode_6 : decode prog_4_method_3_code 6 = .ok (.iconst 1, 1) := by decide +kernel
theorem d_Net_everyNode_7 : decode prog_4_method_3_code 7 = .ok (.isub, 1) := by decide +kernel
theorem d_Net_everyNode_8 : decode prog_4_method_3_code 8 = .ok (.ireturn, 1) := by decide +kernel
abbrev wd_Net_everyNode (cI cJ cG cZ : ClassId) (a0 a0_near a0_tail a0_head : Nat) (v0_nodes : Int32) (v0_arcCount : Int32) (v0_version : Int32) : va_W := [(a0, .inr (1, [.ref a0_near, .ref a0_tail, .ref a0_head, .int v0_nodes, .int v0_arcCount, .int v0_version]))]
abbrev us_Net_everyNode : List Cond := .code y_Net_everyNode prog_4_method_3_code 1 (some .int) :: gtbl
abbrev rm_Net_everyNode : Room := { frames := 0, cells := 0, slots := 0, locals := 0 }
def m_Net_everyNode (F : Nat) (v0_nodes : Int32) (v0_arcCount : Int32) (v0_version : Int32) : Option (Int32) :=
  some (((1 : Int32) <<< (v0_nodes &&& 31)) - 1)
set_option maxHeartbeats 4000000 in
set_option maxRecDepth 100000 in
theorem c_Net_everyNode (l : Launch) (dC : Nat → ClassId) (dI : Nat → Nat → Nat) (cI cJ cG cZ : ClassId) (a0 a0_near a0_tail a0_head : Nat) (sz : Nat) (F : Nat) (v0_nodes : Int32) (v0_arcCount : Int32) (v0_version : Int32) (ret : Int32) (hm : m_Net_everyNode F v0_nodes v0_arcCount v0_version = some ret) : Met l y_Net_everyNode us_Net_everyNode rm_Net_everyNode (PcS (dC, dI) (tyL cI cJ cG cZ) [.ref a0] sz (wd_Net_everyNode cI cJ cG cZ a0 a0_near a0_tail a0_head v0_nodes v0_arcCount v0_version)) (va_Qi (fun (r : Int32) (_ : Unit) => ret = r) (fun _ t => PoS (dC, dI) (tyL cI cJ cG cZ) (wd_Net_everyNode cI cJ cG cZ a0 a0_near a0_tail a0_head v0_nodes v0_arcCount v0_version) (va_A (wd_Net_everyNode cI cJ cG cZ a0 a0_near a0_tail a0_head v0_nodes v0_arcCount v0_version) sz) t) (va_A (wd_Net_everyNode cI cJ cG cZ a0 a0_near a0_tail a0_head v0_nodes v0_arcCount v0_version) sz)) 0 0 (va_A (wd_Net_everyNode cI cJ cG cZ a0 a0_near a0_tail a0_head v0_nodes v0_arcCount v0_version) sz) := by
  refine Met.ofW (cc := prog_4_method_3_code) (maxL := 1) (ret := (some .int)) (by decide) rfl ?_
  intro p e s m args below meth c s₁ B hml hv
  obtain ⟨rfl, hsz, hP, hK, hD0, hNw⟩ := hv
  have hx := B.exec
  have hb := B.bytes
  have hr := B.returns
  have htt : ∀ w ∈ gtbl, w.before _ s = true := fun w h => atoms_spec (ws := us_Net_everyNode) B.pre w (List.mem_cons_of_mem _ h)
  have hown : s.vm.findClass R_Net = some m.cls := findClass_of_methodNamed B.named
  have hlocks := B.notSynchronized
  subst hsz
  have hD := hD0.self (sz := s.heap.size)
  generalize hAe : va_A (wd_Net_everyNode cI cJ cG cZ a0 a0_near a0_tail a0_head v0_nodes v0_arcCount v0_version) s.heap.size = A at hD ⊢
  have hA : ∀ q : Nat, s.heap.size ≤ q → A q := fun q h => by rw [← hAe]; exact Or.inr h
  clear hAe hD0
  have hS : va_S A s.heap s.heap [] := va_S.rf
  have hl := lv_entry ([.ref a0]) (n := 1) (Nat.le_of_ble_eq_true rfl)
  rw [lg_entry_eq]
  generalize (lg_sl ([.ref a0]) ++ List.replicate (1 - (lg_sl ([.ref a0])).length) Slot.unset).toArray = ls at hl ⊢
  have hl : lv_has ls 1 [(0, .ref a0)] := hl
  generalize hH : s.heap = H at hP ⊢
  have hS : va_S A s.heap H [] := hH ▸ hS
  generalize hLo : ([] : List Loc) = locs at hS ⊢
  clear hH hLo
  unfold m_Net_everyNode at hm
  refine lv_iconst (v := 1) hx hb d_Net_everyNode_0 (by decide) ?_
  refine lv_aload_n hx hb d_Net_everyNode_1 rfl (lv_at hl 0 rfl) ?_
  refine va_get (D := (dC, dI)) (ci := 1) (v := .int v0_nodes) (C := R_Net) (T := T_Net) (N := 6) hx hb htt hin_Net hown hK hP 0 rfl rfl 3 (by decide) (htt _ kt_47) (fun _ h9 => h9) rfl d_Net_everyNode_2 ?_
  refine lv_ishl hx hb d_Net_everyNode_5 ?_
  refine lv_iconst (v := 1) hx hb d_Net_everyNode_6 (by decide) ?_
  refine lv_isub hx hb d_Net_everyNode_7 ?_
  cases hm
  exact W.iret hx hb hr (fun t ht hW => ⟨⟨_, (), rfl, rfl, by rw [ht]; exact hP, va_K.moved hW.alike hK, hD⟩, hS.F ht⟩) hS.2.2 d_Net_everyNode_8
theorem d_Net_addNode_0 : decode prog_4_method_4_code 0 = .ok (.aload_n 0, 1) := by decide +kernel
theorem d_Net_addNode_1 : decode prog_4_method_4_code 1 = .ok (.dup, 1) := by decide +kernel
theorem d_Net_addNode_2 : decode prog_4_method_4_code 2 = .ok (.getfield 25, 3) := by decide +kernel
theorem d_Net_addNode_5 : decode prog_4_method_4_code 5 = .ok (.iconst 1, 1) := by decide +kernel
theorem d_Net_addNode_6 : decode prog_4_method_4_code 6 = .ok (.iadd, 1) := by decide +kernel
theorem d_Net_addNode_7 : decode prog_4_method_4_code 7 = .ok (.putfield 25, 3) := by decide +kernel
theorem d_Net_addNode_10 : decode prog_4_method_4_code 10 = .ok (.aload_n 0, 1) := by decide +kernel
theorem d_Net_addNode_11 : decode prog_4_method_4_code 11 = .ok (.dup, 1) := by decide +kernel
theorem d_Net_addNode_12 : decode prog_4_method_4_code 12 = .ok (.getfield 21, 3) := by decide +kernel
theorem d_Net_addNode_15 : decode prog_4_method_4_code 15 = .ok (.dup_x1, 1) := by decide +kernel
theorem d_Net_addNode_16 : decode prog_4_method_4_code 16 = .ok (.iconst 1, 1) := by decide +kernel
theorem d_Net_addNode_17 : decode prog_4_method_4_code 17 = .ok (.iadd, 1) := by decide +kernel
theorem d_Net_addNode_18 : decode prog_4_method_4_code 18 = .ok (.putfield 21, 3) := by decide +kernel
theorem d_Net_addNode_21 : decode prog_4_method_4_code 21 = .ok (.ireturn, 1) := by decide +kernel
abbrev wd_Net_addNode (cI cJ cG cZ : ClassId) (a0 a0_near a0_tail a0_head : Nat) (v0_nodes : Int32) (v0_arcCount : Int32) (v0_version : Int32) : va_W := [(a0, .inr (1, [.ref a0_near, .ref a0_tail, .ref a0_head, .int v0_nodes, .int v0_arcCount, .int v0_version]))]
abbrev us_Net_addNode : List Cond := .code y_Net_addNode prog_4_method_4_code 1 (some .int) :: gtbl
abbrev rm_Net_addNode : Room := { frames := 0, cells := 0, slots := 0, locals := 0 }
def m_Net_addNode (F : Nat) (v0_nodes : Int32) (v0_arcCount : Int32) (v0_version : Int32) : Option (Int32 × Int32 × Int32) :=
  gB (v0_version + 1) (fun f_1 =>
  gB (v0_nodes + 1) (fun f_2 =>
  some (v0_nodes, f_2, f_1)))
set_option maxHeartbeats 4000000 in
set_option maxRecDepth 100000 in
theorem c_Net_addNode (l : Launch) (dC : Nat → ClassId) (dI : Nat → Nat → Nat) (cI cJ cG cZ : ClassId) (a0 a0_near a0_tail a0_head : Nat) (sz : Nat) (F : Nat) (v0_nodes : Int32) (v0_arcCount : Int32) (v0_version : Int32) (ret : Int32) (o_v0_nodes : Int32) (o_v0_version : Int32) (hm : m_Net_addNode F v0_nodes v0_arcCount v0_version = some (ret, o_v0_nodes, o_v0_version)) : Met l y_Net_addNode us_Net_addNode rm_Net_addNode (PcS (dC, dI) (tyL cI cJ cG cZ) [.ref a0] sz (wd_Net_addNode cI cJ cG cZ a0 a0_near a0_tail a0_head v0_nodes v0_arcCount v0_version)) (va_Qi (fun (r : Int32) (_ : Unit) => ret = r) (fun _ t => PoS (dC, dI) (tyL cI cJ cG cZ) (wd_Net_addNode cI cJ cG cZ a0 a0_near a0_tail a0_head o_v0_nodes v0_arcCount o_v0_version) (va_A (wd_Net_addNode cI cJ cG cZ a0 a0_near a0_tail a0_head v0_nodes v0_arcCount v0_version) sz) t) (va_A (wd_Net_addNode cI cJ cG cZ a0 a0_near a0_tail a0_head v0_nodes v0_arcCount v0_version) sz)) 0 0 (va_A (wd_Net_addNode cI cJ cG cZ a0 a0_near a0_tail a0_head v0_nodes v0_arcCount v0_version) sz) := by
  refine Met.ofW (cc := prog_4_method_4_code) (maxL := 1) (ret := (some .int)) (by decide) rfl ?_
  intro p e s m args below meth c s₁ B hml hv
  obtain ⟨rfl, hsz, hP, hK, hD0, hNw⟩ := hv
  have hx := B.exec
  have hb := B.bytes
  have hr := B.returns
  have htt : ∀ w ∈ gtbl, w.before _ s = true := fun w h => atoms_spec (ws := us_Net_addNode) B.pre w (List.mem_cons_of_mem _ h)
  have hown : s.vm.findClass R_Net = some m.cls := findClass_of_methodNamed B.named
  have hlocks := B.notSynchronized
  subst hsz
  have hD := hD0.self (sz := s.heap.size)
  generalize hAe : va_A (wd_Net_addNode cI cJ cG cZ a0 a0_near a0_tail a0_head v0_nodes v0_arcCount v0_version) s.heap.size = A at hD ⊢
  have hA : ∀ q : Nat, s.heap.size ≤ q → A q := fun q h => by rw [← hAe]; exact Or.inr h
  clear hAe hD0
  have hS : va_S A s.heap s.heap [] := va_S.rf
  have hl := lv_entry ([.ref a0]) (n := 1) (Nat.le_of_ble_eq_true rfl)
  rw [lg_entry_eq]
  generalize (lg_sl ([.ref a0]) ++ List.replicate (1 - (lg_sl ([.ref a0])).length) Slot.unset).toArray = ls at hl ⊢
  have hl : lv_has ls 1 [(0, .ref a0)] := hl
  generalize hH : s.heap = H at hP ⊢
  have hS : va_S A s.heap H [] := hH ▸ hS
  generalize hLo : ([] : List Loc) = locs at hS ⊢
  clear hH hLo
  unfold m_Net_addNode at hm
  refine lv_aload_n hx hb d_Net_addNode_0 rfl (lv_at hl 0 rfl) ?_
  refine lv_dup hx hb d_Net_addNode_1 rfl ?_
  refine va_get (D := (dC, dI)) (ci := 1) (v := .int v0_version) (C := R_Net) (T := T_Net) (N := 6) hx hb htt hin_Net hown hK hP 0 rfl rfl 5 (by decide) (htt _ kt_57) (fun _ h9 => h9) rfl d_Net_addNode_2 ?_
  refine lv_iconst (v := 1) hx hb d_Net_addNode_5 (by decide) ?_
  refine lv_iadd hx hb d_Net_addNode_6 ?_
  refine lv_topi (fun f_1 ef_1 => ?_)
  have hm := gB_at ef_1 hm
  refine va_put (D := (dC, dI)) (ci := 1) (v := .int f_1) (ty := .int) (C := R_Net) (T := T_Net) (N := 6) hx hb htt hin_Net ty_Net tyok_Net nm_Net hown hK hP hD hS 0 rfl rfl 5 (by decide) (htt _ kt_57) (fun _ h9 => h9) rfl (by decide +kernel) rfl rfl (Nat.le_of_ble_eq_true rfl) d_Net_addNode_7 (fun H locs hP hD hS => ?_)
  have hP : va_P (dC, dI) vwCl (wd_Net_addNode cI cJ cG cZ a0 a0_near a0_tail a0_head v0_nodes v0_arcCount f_1) H := hP
  have hD : va_D A (wd_Net_addNode cI cJ cG cZ a0 a0_near a0_tail a0_head v0_nodes v0_arcCount f_1) := hD
  refine lv_aload_n hx hb d_Net_addNode_10 rfl (lv_at hl 0 rfl) ?_
  refine lv_dup hx hb d_Net_addNode_11 rfl ?_
  refine va_get (D := (dC, dI)) (ci := 1) (v := .int v0_nodes) (C := R_Net) (T := T_Net) (N := 6) hx hb htt hin_Net hown hK hP 0 rfl rfl 3 (by decide) (htt _ kt_47) (fun _ h9 => h9) rfl d_Net_addNode_12 ?_
  refine lv_dup_x1 hx hb d_Net_addNode_15 rfl rfl ?_
  refine lv_iconst (v := 1) hx hb d_Net_addNode_16 (by decide) ?_
  refine lv_iadd hx hb d_Net_addNode_17 ?_
  refine lv_topi (fun f_2 ef_2 => ?_)
  have hm := gB_at ef_2 hm
  refine va_put (D := (dC, dI)) (ci := 1) (v := .int f_2) (ty := .int) (C := R_Net) (T := T_Net) (N := 6) hx hb htt hin_Net ty_Net tyok_Net nm_Net hown hK hP hD hS 0 rfl rfl 3 (by decide) (htt _ kt_47) (fun _ h9 => h9) rfl (by decide +kernel) rfl rfl (Nat.le_of_ble_eq_true rfl) d_Net_addNode_18 (fun H locs hP hD hS => ?_)
  have hP : va_P (dC, dI) vwCl (wd_Net_addNode cI cJ cG cZ a0 a0_near a0_tail a0_head f_2 v0_arcCount f_1) H := hP
  have hD : va_D A (wd_Net_addNode cI cJ cG cZ a0 a0_near a0_tail a0_head f_2 v0_arcCount f_1) := hD
  cases hm
  exact W.iret hx hb hr (fun t ht hW => ⟨⟨_, (), rfl, rfl, by rw [ht]; exact hP, va_K.moved hW.alike hK, hD⟩, hS.F ht⟩) hS.2.2 d_Net_addNode_21
theorem d_Net_mayJoin_0 : decode prog_4_method_5_code 0 = .ok (.aload_n 0, 1) := by decide +kernel
theorem d_Net_mayJoin_1 : decode prog_4_method_5_code 1 = .ok (.iload_n 1, 1) := by decide +kernel
theorem d_Net_mayJoin_2 : decode prog_4_method_5_code 2 = .ok (.invokevirtual 28, 3) := by decide +kernel
theorem d_Net_mayJoin_5 : decode prog_4_method_5_code 5 = .ok (.ifCond .eq 42, 3) := by decide +kernel
theorem d_Net_mayJoin_8 : decode prog_4_method_5_code 8 = .ok (.aload_n 0, 1) := by decide +kernel
theorem d_Net_mayJoin_9 : decode prog_4_method_5_code 9 = .ok (.iload_n 2, 1) := by decide +kernel
theorem d_Net_mayJoin_10 : decode prog_4_method_5_code 10 = .ok (.invokevirtual 28, 3) := by decide +kernel
theorem d_Net_mayJoin_13 : decode prog_4_method_5_code 13 = .ok (.ifCond .eq 34, 3) := by decide +kernel
theorem d_Net_mayJoin_16 : decode prog_4_method_5_code 16 = .ok (.iload_n 1, 1) := by decide +kernel
theorem d_Net_mayJoin_17 : decode prog_4_method_5_code 17 = .ok (.iload_n 2, 1) := by decide +kernel
theorem d_Net_mayJoin_18 : decode prog_4_method_5_code 18 = .ok (.if_icmp .eq 29, 3) := by decide +kernel
theorem d_Net_mayJoin_21 : decode prog_4_method_5_code 21 = .ok (.aload_n 0, 1) := by decide +kernel
theorem d_Net_mayJoin_22 : decode prog_4_method_5_code 22 = .ok (.getfield 9, 3) := by decide +kernel
theorem d_Net_mayJoin_25 : decode prog_4_method_5_code 25 = .ok (.iload_n 1, 1) := by decide +kernel
theorem d_Net_mayJoin_26 : decode prog_4_method_5_code 26 = .ok (.iaload, 1) := by decide +kernel
theorem d_Net_mayJoin_27 : decode prog_4_method_5_code 27 = .ok (.iload_n 2, 1) := by decide +kernel
theorem d_Net_mayJoin_28 : decode prog_4_method_5_code 28 = .ok (.ishr, 1) := by decide +kernel
theorem d_Net_mayJoin_29 : decode prog_4_method_5_code 29 = .ok (.iconst 1, 1) := by decide +kernel
theorem d_Net_mayJoin_30 : decode prog_4_method_5_code 30 = .ok (.iand, 1) := by decide +kernel
theorem d_Net_mayJoin_31 : decode prog_4_method_5_code 31 = .ok (.ifCond .ne 16, 3) := by decide +kernel
theorem d_Net_mayJoin_34 : decode prog_4_method_5_code 34 = .ok (.aload_n 0, 1) := by decide +kernel
theorem d_Net_mayJoin_35 : decode prog_4_method_5_code 35 = .ok (.getfield 32, 3) := by decide +kernel
theorem d_Net_mayJoin_38 : decode prog_4_method_5_code 38 = .ok (.bipush 40, 2) := by decide +kernel
theorem d_Net_mayJoin_40 : decode prog_4_method_5_code 40 = .ok (.if_icmp .ge 7, 3) := by decide +kernel
theorem d_Net_mayJoin_43 : decode prog_4_method_5_code 43 = .ok (.iconst 1, 1) := by decide +kernel
theorem d_Net_mayJoin_44 : decode prog_4_method_5_code 44 = .ok (.goto 4, 3) := by decide +kernel
theorem d_Net_mayJoin_47 : decode prog_4_method_5_code 47 = .ok (.iconst 0, 1) := by decide +kernel
theorem d_Net_mayJoin_48 : decode prog_4_method_5_code 48 = .ok (.ireturn, 1) := by decide +kernel
abbrev wd_Net_mayJoin (cI cJ cG cZ : ClassId) (a0 a0_near a0_tail a0_head : Nat) (v0_nodes : Int32) (v0_arcCount : Int32) (v0_version : Int32) (w0_near : Nat → Int32) : va_W := [(a0, .inr (1, [.ref a0_near, .ref a0_tail, .ref a0_head, .int v0_nodes, .int v0_arcCount, .int v0_version])), (a0_near, .inl (cI, 12, .inl w0_near))]
abbrev us_Net_mayJoin : List Cond := .code y_Net_mayJoin prog_4_method_5_code 3 (some .boolean) :: gtbl
abbrev rm_Net_mayJoin : Room := { frames := 1, cells := 0, slots := 0, locals := 21 }
def m_Net_mayJoin (F : Nat) (v0_nodes : Int32) (v0_arcCount : Int32) (v0_version : Int32) (w0_near : Nat → Int32) (p1 : Int32) (p2 : Int32) : Option (Int32) :=
  gM (m_Net_isNode F v0_nodes v0_arcCount v0_version p1) (fun q_1 =>
  if q_1 = 0 then (
    some 0
  ) else (
    gM (m_Net_isNode F v0_nodes v0_arcCount v0_version p2) (fun q_6 =>
    if q_6 = 0 then (
      some 0
    ) else (
      if p1 = p2 then (
        some 0
      ) else (
        gC (inb p1 12) (
        if (((w0_near p1.toNatClampNeg) >>> (p2 &&& 31)) &&& 1) = 0 then (
          if (40 : Int32) ≤ v0_arcCount then (
            some 0
          ) else (
            some 1
          )
        ) else (
          some 0
        ))
      )
    ))
  ))
set_option maxHeartbeats 4000000 in
set_option maxRecDepth 100000 in
theorem c_Net_mayJoin (l : Launch) (dC : Nat → ClassId) (dI : Nat → Nat → Nat) (cI cJ cG cZ : ClassId) (a0 a0_near a0_tail a0_head : Nat) (sz : Nat) (F : Nat) (v0_nodes : Int32) (v0_arcCount : Int32) (v0_version : Int32) (w0_near : Nat → Int32) (p1 : Int32) (p2 : Int32) (ret : Int32) (hm : m_Net_mayJoin F v0_nodes v0_arcCount v0_version w0_near p1 p2 = some ret) : Met l y_Net_mayJoin us_Net_mayJoin rm_Net_mayJoin (PcS (dC, dI) (tyL cI cJ cG cZ) [.ref a0, .int p1, .int p2] sz (wd_Net_mayJoin cI cJ cG cZ a0 a0_near a0_tail a0_head v0_nodes v0_arcCount v0_version w0_near)) (va_Qi (fun (r : Int32) (_ : Unit) => ret = r ∧ bz r) (fun _ t => PoS (dC, dI) (tyL cI cJ cG cZ) (wd_Net_mayJoin cI cJ cG cZ a0 a0_near a0_tail a0_head v0_nodes v0_arcCount v0_version w0_near) (va_A (wd_Net_mayJoin cI cJ cG cZ a0 a0_near a0_tail a0_head v0_nodes v0_arcCount v0_version w0_near) sz) t) (va_A (wd_Net_mayJoin cI cJ cG cZ a0 a0_near a0_tail a0_head v0_nodes v0_arcCount v0_version w0_near) sz)) 0 0 (va_A (wd_Net_mayJoin cI cJ cG cZ a0 a0_near a0_tail a0_head v0_nodes v0_arcCount v0_version w0_near) sz) := by
  refine Met.ofW (cc := prog_4_method_5_code) (maxL := 3) (ret := (some .boolean)) (by decide) rfl ?_
  intro p e s m args below meth c s₁ B hml hv
  obtain ⟨rfl, hsz, hP, hK, hD0, hNw⟩ := hv
  have hx := B.exec
  have hb := B.bytes
  have hr := B.returns
  have htt : ∀ w ∈ gtbl, w.before _ s = true := fun w h => atoms_spec (ws := us_Net_mayJoin) B.pre w (List.mem_cons_of_mem _ h)
  have hown : s.vm.findClass R_Net = some m.cls := findClass_of_methodNamed B.named
  have hlocks := B.notSynchronized
  subst hsz
  have hD := hD0.self (sz := s.heap.size)
  generalize hAe : va_A (wd_Net_mayJoin cI cJ cG cZ a0 a0_near a0_tail a0_head v0_nodes v0_arcCount v0_version w0_near) s.heap.size = A at hD ⊢
  have hA : ∀ q : Nat, s.heap.size ≤ q → A q := fun q h => by rw [← hAe]; exact Or.inr h
  clear hAe hD0
  have hS : va_S A s.heap s.heap [] := va_S.rf
  have hl := lv_entry ([.ref a0, .int p1, .int p2]) (n := 3) (Nat.le_of_ble_eq_true rfl)
  rw [lg_entry_eq]
  generalize (lg_sl ([.ref a0, .int p1, .int p2]) ++ List.replicate (3 - (lg_sl ([.ref a0, .int p1, .int p2])).length) Slot.unset).toArray = ls at hl ⊢
  have hl : lv_has ls 3 [(0, .ref a0), (1, .int p1), (2, .int p2)] := hl
  generalize hH : s.heap = H at hP ⊢
  have hS : va_S A s.heap H [] := hH ▸ hS
  generalize hLo : ([] : List Loc) = locs at hS ⊢
  clear hH hLo
  unfold m_Net_mayJoin at hm
  refine lv_aload_n hx hb d_Net_mayJoin_0 rfl (lv_at hl 0 rfl) ?_
  refine lv_iload_n hx hb d_Net_mayJoin_1 rfl (lv_at hl 1 rfl) ?_
  obtain ⟨q_1, hc_2, hm⟩ := gM_e hm
  have hPc : va_P (dC, dI) vwCl (wd_Net_isNode cI cJ cG cZ a0 a0_near a0_tail a0_head v0_nodes v0_arcCount v0_version) H := hP.sub [0] rfl
  have hDc : va_D A (wd_Net_isNode cI cJ cG cZ a0 a0_near a0_tail a0_head v0_nodes v0_arcCount v0_version) := hD.sub [0] (by decide) rfl
  have hFc : ∀ q, va_A (wd_Net_isNode cI cJ cG cZ a0 a0_near a0_tail a0_head v0_nodes v0_arcCount v0_version) H.size q → A q := va_free hD hS hA [0] rfl
  refine va_calli (va_runV (As := [.int p1]) (rest := []) ⟨hx, hb, hml, hown, htt⟩ (c_Net_isNode l dC dI cI cJ cG cZ a0 a0_near a0_tail a0_head H.size F v0_nodes v0_arcCount v0_version p1 q_1 hc_2) (cwV 1 htt (gdV kt_274 kt_275 kt_276 kt_2 kt_277) rfl rfl rfl (by decide +kernel) ⟨(Nat.le_of_ble_eq_true rfl), (Nat.le_of_ble_eq_true rfl)⟩) ⟨PcS_blind, va_recv hK hPc (ci := 1) (q0 := 0) rfl rfl, PcS_in hPc hK hDc hNw⟩ rfl rfl hl.1 rfl (lv_room (Nat.le_of_ble_eq_true rfl)) d_Net_mayJoin_2 ⟨Nat.zero_le _, Nat.zero_le _⟩) hS (fun q _ h => hFc q h) hFc (fun r_3 u t H1 locs ht hvm hw hB hz1 hk1 hS => ?_)
  obtain ⟨hP1, hK1, hD1⟩ := hB
  rw [ht] at hP1
  obtain ⟨hw, hz_4⟩ := hw
  subst hw
  obtain ⟨hP, hD⟩ := va_join (wr := [(a0_near, .inl (cI, 12, .inl w0_near))]) (w1 := (wd_Net_isNode cI cJ cG cZ a0 a0_near a0_tail a0_head v0_nodes v0_arcCount v0_version)) hP hD [0] [1] rfl rfl (by decide) (by decide) hk1 hFc hP1 hD1
  have hP : va_P (dC, dI) vwCl (wd_Net_mayJoin cI cJ cG cZ a0 a0_near a0_tail a0_head v0_nodes v0_arcCount v0_version w0_near) H1 := hP.sub [1, 0] rfl
  have hD : va_D A (wd_Net_mayJoin cI cJ cG cZ a0 a0_near a0_tail a0_head v0_nodes v0_arcCount v0_version w0_near) := hD.sub [1, 0] (by decide) rfl
  clear hP1 hK1 hD1 hk1 hPc hDc hFc ht hvm hz1
  generalize H1 = H at hP hS ⊢
  refine lv_if_eq (tgt := 47) hx hb d_Net_mayJoin_5 (by decide) (fun c_5 => ?_) (fun c_5 => ?_)
  · have hm := ite_t c_5 hm
    refine lv_iconst (v := 0) hx hb d_Net_mayJoin_47 (by decide) ?_
    cases hm
    exact W.zret (ty := .boolean) hx hb hr (bz_nar (by decide : bz 0)) (fun t ht hW => ⟨⟨_, (), rfl, ⟨rfl, (by decide : bz 0)⟩, by rw [ht]; exact hP, va_K.moved hW.alike hK, hD⟩, hS.F ht⟩) hS.2.2 d_Net_mayJoin_48
  · have hm := ite_f c_5 hm
    refine lv_aload_n hx hb d_Net_mayJoin_8 rfl (lv_at hl 0 rfl) ?_
    refine lv_iload_n hx hb d_Net_mayJoin_9 rfl (lv_at hl 2 rfl) ?_
    obtain ⟨q_6, hc_7, hm⟩ := gM_e hm
    have hPc : va_P (dC, dI) vwCl (wd_Net_isNode cI cJ cG cZ a0 a0_near a0_tail a0_head v0_nodes v0_arcCount v0_version) H := hP.sub [0] rfl
    have hDc : va_D A (wd_Net_isNode cI cJ cG cZ a0 a0_near a0_tail a0_head v0_nodes v0_arcCount v0_version) := hD.sub [0] (by decide) rfl
    have hFc : ∀ q, va_A (wd_Net_isNode cI cJ cG cZ a0 a0_near a0_tail a0_head v0_nodes v0_arcCount v0_version) H.size q → A q := va_free hD hS hA [0] rfl
    refine va_calli (va_runV (As := [.int p2]) (rest := []) ⟨hx, hb, hml, hown, htt⟩ (c_Net_isNode l dC dI cI cJ cG cZ a0 a0_near a0_tail a0_head H.size F v0_nodes v0_arcCount v0_version p2 q_6 hc_7) (cwV 1 htt (gdV kt_274 kt_275 kt_276 kt_2 kt_277) rfl rfl rfl (by decide +kernel) ⟨(Nat.le_of_ble_eq_true rfl), (Nat.le_of_ble_eq_true rfl)⟩) ⟨PcS_blind, va_recv hK hPc (ci := 1) (q0 := 0) rfl rfl, PcS_in hPc hK hDc hNw⟩ rfl rfl hl.1 rfl (lv_room (Nat.le_of_ble_eq_true rfl)) d_Net_mayJoin_10 ⟨Nat.zero_le _, Nat.zero_le _⟩) hS (fun q _ h => hFc q h) hFc (fun r_8 u t H1 locs ht hvm hw hB hz1 hk1 hS => ?_)
    obtain ⟨hP1, hK1, hD1⟩ := hB
    rw [ht] at hP1
    obtain ⟨hw, hz_9⟩ := hw
    subst hw
    obtain ⟨hP, hD⟩ := va_join (wr := [(a0_near, .inl (cI, 12, .inl w0_near))]) (w1 := (wd_Net_isNode cI cJ cG cZ a0 a0_near a0_tail a0_head v0_nodes v0_arcCount v0_version)) hP hD [0] [1] rfl rfl (by decide) (by decide) hk1 hFc hP1 hD1
    have hP : va_P (dC, dI) vwCl (wd_Net_mayJoin cI cJ cG cZ a0 a0_near a0_tail a0_head v0_nodes v0_arcCount v0_version w0_near) H1 := hP.sub [1, 0] rfl
    have hD : va_D A (wd_Net_mayJoin cI cJ cG cZ a0 a0_near a0_tail a0_head v0_nodes v0_arcCount v0_version w0_near) := hD.sub [1, 0] (by decide) rfl
    clear hP1 hK1 hD1 hk1 hPc hDc hFc ht hvm hz1
    generalize H1 = H at hP hS ⊢
    refine lv_if_eq (tgt := 47) hx hb d_Net_mayJoin_13 (by decide) (fun c_10 => ?_) (fun c_10 => ?_)
    · have hm := ite_t c_10 hm
      refine lv_iconst (v := 0) hx hb d_Net_mayJoin_47 (by decide) ?_
      cases hm
      exact W.zret (ty := .boolean) hx hb hr (bz_nar (by decide : bz 0)) (fun t ht hW => ⟨⟨_, (), rfl, ⟨rfl, (by decide : bz 0)⟩, by rw [ht]; exact hP, va_K.moved hW.alike hK, hD⟩, hS.F ht⟩) hS.2.2 d_Net_mayJoin_48
    · have hm := ite_f c_10 hm
      refine lv_iload_n hx hb d_Net_mayJoin_16 rfl (lv_at hl 1 rfl) ?_
      refine lv_iload_n hx hb d_Net_mayJoin_17 rfl (lv_at hl 2 rfl) ?_
      refine lv_icmp_eq (tgt := 47) hx hb d_Net_mayJoin_18 (by decide) (fun c_11 => ?_) (fun c_11 => ?_)
      · have hm := ite_t c_11 hm
        refine lv_iconst (v := 0) hx hb d_Net_mayJoin_47 (by decide) ?_
        cases hm
        exact W.zret (ty := .boolean) hx hb hr (bz_nar (by decide : bz 0)) (fun t ht hW => ⟨⟨_, (), rfl, ⟨rfl, (by decide : bz 0)⟩, by rw [ht]; exact hP, va_K.moved hW.alike hK, hD⟩, hS.F ht⟩) hS.2.2 d_Net_mayJoin_48
      · have hm := ite_f c_11 hm
        refine lv_aload_n hx hb d_Net_mayJoin_21 rfl (lv_at hl 0 rfl) ?_
        refine va_get (D := (dC, dI)) (ci := 1) (v := .ref a0_near) (C := R_Net) (T := T_Net) (N := 6) hx hb htt hin_Net hown hK hP 0 rfl rfl 0 (by decide) (htt _ kt_32) (fun _ h9 => h9) rfl d_Net_mayJoin_22 ?_
        refine lv_iload_n hx hb d_Net_mayJoin_25 rfl (lv_at hl 1 rfl) ?_
        obtain ⟨hi_12, hm⟩ := gC_e hm
        refine va_iald hx hb hK hP 1 0 rfl rfl (inb_vp hi_12) d_Net_mayJoin_26 ?_
        refine lv_iload_n hx hb d_Net_mayJoin_27 rfl (lv_at hl 2 rfl) ?_
        refine lv_ishr hx hb d_Net_mayJoin_28 ?_
        refine lv_iconst (v := 1) hx hb d_Net_mayJoin_29 (by decide) ?_
        refine lv_iand hx hb d_Net_mayJoin_30 ?_
        refine lv_if_ne (tgt := 47) hx hb d_Net_mayJoin_31 (by decide) (fun c_13 => ?_) (fun c_13 => ?_)
        · have hm := ite_f c_13 hm
          refine lv_iconst (v := 0) hx hb d_Net_mayJoin_47 (by decide) ?_
          cases hm
          exact W.zret (ty := .boolean) hx hb hr (bz_nar (by decide : bz 0)) (fun t ht hW => ⟨⟨_, (), rfl, ⟨rfl, (by decide : bz 0)⟩, by rw [ht]; exact hP, va_K.moved hW.alike hK, hD⟩, hS.F ht⟩) hS.2.2 d_Net_mayJoin_48
        · have hm := ite_t c_13 hm
          refine lv_aload_n hx hb d_Net_mayJoin_34 rfl (lv_at hl 0 rfl) ?_
          refine va_get (D := (dC, dI)) (ci := 1) (v := .int v0_arcCount) (C := R_Net) (T := T_Net) (N := 6) hx hb htt hin_Net hown hK hP 0 rfl rfl 4 (by decide) (htt _ kt_55) (fun _ h9 => h9) rfl d_Net_mayJoin_35 ?_
          refine lv_bipush (v := 40) hx hb d_Net_mayJoin_38 (by decide) ?_
          refine lv_icmp_ge (tgt := 47) hx hb d_Net_mayJoin_40 (by decide) (fun c_14 => ?_) (fun c_14 => ?_)
          · have hm := ite_t c_14 hm
            refine lv_iconst (v := 0) hx hb d_Net_mayJoin_47 (by decide) ?_
            cases hm
            exact W.zret (ty := .boolean) hx hb hr (bz_nar (by decide : bz 0)) (fun t ht hW => ⟨⟨_, (), rfl, ⟨rfl, (by decide : bz 0)⟩, by rw [ht]; exact hP, va_K.moved hW.alike hK, hD⟩, hS.F ht⟩) hS.2.2 d_Net_mayJoin_48
          · have hm := ite_f c_14 hm
            refine lv_iconst (v := 1) hx hb d_Net_mayJoin_43 (by decide) ?_
            refine lv_goto (tgt := 48) hx hb d_Net_mayJoin_44 (by decide) ?_
            cases hm
            exact W.zret (ty := .boolean) hx hb hr (bz_nar (by decide : bz 1)) (fun t ht hW => ⟨⟨_, (), rfl, ⟨rfl, (by decide : bz 1)⟩, by rw [ht]; exact hP, va_K.moved hW.alike hK, hD⟩, hS.F ht⟩) hS.2.2 d_Net_mayJoin_48
theorem d_Net_join_0 : decode prog_4_method_6_code 0 = .ok (.aload_n 0, 1) := by decide +kernel
theorem d_Net_join_1 : decode prog_4_method_6_code 1 = .ok (.dup, 1) := by decide +kernel
theorem d_Net_join_2 : decode prog_4_method_6_code 2 = .ok (.getfield 25, 3) := by decide +kernel
theorem d_Net_join_5 : decode prog_4_method_6_code 5 = .ok (.iconst 1, 1) := by decide +kernel
theorem d_Net_join_6 : decode prog_4_method_6_code 6 = .ok (.iadd, 1) := by decide +kernel
theorem d_Net_join_7 : decode prog_4_method_6_code 7 = .ok (.putfield 25, 3) := by decide +kernel
theorem d_Net_join_10 : decode prog_4_method_6_code 10 = .ok (.aload_n 0, 1) := by decide +kernel
theorem d_Net_join_11 : decode prog_4_method_6_code 11 = .ok (.getfield 9, 3) := by decide +kernel
theorem d_Net_join_14 : decode prog_4_method_6_code 14 = .ok (.iload_n 1, 1) := by decide +kernel
theorem d_Net_join_15 : decode prog_4_method_6_code 15 = .ok (.dup2, 1) := by decide +kernel
theorem d_Net_join_16 : decode prog_4_method_6_code 16 = .ok (.iaload, 1) := by decide +kernel
theorem d_Net_join_17 : decode prog_4_method_6_code 17 = .ok (.iconst 1, 1) := by decide +kernel
theorem d_Net_join_18 : decode prog_4_method_6_code 18 = .ok (.iload_n 2, 1) := by decide +kernel
theorem d_Net_join_19 : decode prog_4_method_6_code 19 = .ok (.ishl, 1) := by decide +kernel
theorem d_Net_join_20 : decode prog_4_method_6_code 20 = .ok (.ior, 1) := by decide +kernel
theorem d_Net_join_21 : decode prog_4_method_6_code 21 = .ok (.iastore, 1) := by decide +kernel
theorem d_Net_join_22 : decode prog_4_method_6_code 22 = .ok (.aload_n 0, 1) := by decide +kernel
theorem d_Net_join_23 : decode prog_4_method_6_code 23 = .ok (.getfield 9, 3) := by decide +kernel
theorem d_Net_join_26 : decode prog_4_method_6_code 26 = .ok (.iload_n 2, 1) := by decide +kernel
theorem d_Net_join_27 : decode prog_4_method_6_code 27 = .ok (.dup2, 1) := by decide +kernel
theorem d_Net_join_28 : decode prog_4_method_6_code 28 = .ok (.iaload, 1) := by decide +kernel
theorem d_Net_join_29 : decode prog_4_method_6_code 29 = .ok (.iconst 1, 1) := by decide +kernel
theorem d_Net_join_30 : decode prog_4_method_6_code 30 = .ok (.iload_n 1, 1) := by decide +kernel
theorem d_Net_join_31 : decode prog_4_method_6_code 31 = .ok (.ishl, 1) := by decide +kernel
theorem d_Net_join_32 : decode prog_4_method_6_code 32 = .ok (.ior, 1) := by decide +kernel
theorem d_Net_join_33 : decode prog_4_method_6_code 33 = .ok (.iastore, 1) := by decide +kernel
theorem d_Net_join_34 : decode prog_4_method_6_code 34 = .ok (.aload_n 0, 1) := by decide +kernel
theorem d_Net_join_35 : decode prog_4_method_6_code 35 = .ok (.getfield 15, 3) := by decide +kernel
theorem d_Net_join_38 : decode prog_4_method_6_code 38 = .ok (.aload_n 0, 1) := by decide +kernel
theorem d_Net_join_39 : decode prog_4_method_6_code 39 = .ok (.getfield 32, 3) := by decide +kernel
theorem d_Net_join_42 : decode prog_4_method_6_code 42 = .ok (.iload_n 1, 1) := by decide +kernel
theorem d_Net_join_43 : decode prog_4_method_6_code 43 = .ok (.iastore, 1) := by decide +kernel
theorem d_Net_join_44 : decode prog_4_method_6_code 44 = .ok (.aload_n 0, 1) := by decide +kernel
theorem d_Net_join_45 : decode prog_4_method_6_code 45 = .ok (.getfield 18, 3) := by decide +kernel
theorem d_Net_join_48 : decode prog_4_method_6_code 48 = .ok (.aload_n 0, 1) := by decide +kernel
theorem d_Net_join_49 : decode prog_4_method_6_code 49 = .ok (.getfield 32, 3) := by decide +kernel
theorem d_Net_join_52 : decode prog_4_method_6_code 52 = .ok (.iload_n 2, 1) := by decide +kernel
theorem d_Net_join_53 : decode prog_4_method_6_code 53 = .ok (.iastore, 1) := by decide +kernel
theorem d_Net_join_54 : decode prog_4_method_6_code 54 = .ok (.aload_n 0, 1) := by decide +kernel
theorem d_Net_join_55 : decode prog_4_method_6_code 55 = .ok (.dup, 1) := by decide +kernel
theorem d_Net_join_56 : decode prog_4_method_6_code 56 = .ok (.getfield 32, 3) := by decide +kernel
theorem d_Net_join_59 : decode prog_4_method_6_code 59 = .ok (.dup_x1, 1) := by decide +kernel
theorem d_Net_join_60 : decode prog_4_method_6_code 60 = .ok (.iconst 1, 1) := by decide +kernel
theorem d_Net_join_61 : decode prog_4_method_6_code 61 = .ok (.iadd, 1) := by decide +kernel
theorem d_Net_join_62 : decode prog_4_method_6_code 62 = .ok (.putfield 32, 3) := by decide +kernel
theorem d_Net_join_65 : decode prog_4_method_6_code 65 = .ok (.ireturn, 1) := by decide +kernel
abbrev wd_Net_join (cI cJ cG cZ : ClassId) (a0 a0_near a0_tail a0_head : Nat) (v0_nodes : Int32) (v0_arcCount : Int32) (v0_version : Int32) (w0_near : Nat → Int32) (w0_tail : Nat → Int32) (w0_head : Nat → Int32) : va_W := [(a0, .inr (1, [.ref a0_near, .ref a0_tail, .ref a0_head, .int v0_nodes, .int v0_arcCount, .int v0_version])), (a0_near, .inl (cI, 12, .inl w0_near)), (a0_tail, .inl (cI, 40, .inl w0_tail)), (a0_head, .inl (cI, 40, .inl w0_head))]
abbrev us_Net_join : List Cond := .code y_Net_join prog_4_method_6_code 3 (some .int) :: gtbl
abbrev rm_Net_join : Room := { frames := 0, cells := 0, slots := 0, locals := 0 }
def m_Net_join (F : Nat) (v0_nodes : Int32) (v0_arcCount : Int32) (v0_version : Int32) (w0_near : Nat → Int32) (w0_tail : Nat → Int32) (w0_head : Nat → Int32) (p1 : Int32) (p2 : Int32) : Option (Int32 × Int32 × Int32 × (Nat → Int32) × (Nat → Int32) × (Nat → Int32)) :=
  gB (v0_version + 1) (fun f_1 =>
  gC (inb p1 12) (
  gC (inb p1 12) (
  gC (inb p2 12) (
  gC (inb p2 12) (
  gC (inb v0_arcCount 40) (
  gC (inb v0_arcCount 40) (
  gB (v0_arcCount + 1) (fun f_8 =>
  some (v0_arcCount, f_8, f_1, upd (upd w0_near p1.toNatClampNeg ((w0_near p1.toNatClampNeg) ||| ((1 : Int32) <<< (p2 &&& 31)))) p2.toNatClampNeg (((upd w0_near p1.toNatClampNeg ((w0_near p1.toNatClampNeg) ||| ((1 : Int32) <<< (p2 &&& 31)))) p2.toNatClampNeg) ||| ((1 : Int32) <<< (p1 &&& 31))), upd w0_tail v0_arcCount.toNatClampNeg p1, upd w0_head v0_arcCount.toNatClampNeg p2)))))))))
set_option maxHeartbeats 4000000 in
set_option maxRecDepth 100000 in
theorem c_Net_join (l : Launch) (dC : Nat → ClassId) (dI : Nat → Nat → Nat) (cI cJ cG cZ : ClassId) (a0 a0_near a0_tail a0_head : Nat) (sz : Nat) (F : Nat) (v0_nodes : Int32) (v0_arcCount : Int32) (v0_version : Int32) (w0_near : Nat → Int32) (w0_tail : Nat → Int32) (w0_head : Nat → Int32) (p1 : Int32) (p2 : Int32) (ret : Int32) (o_v0_arcCount : Int32) (o_v0_version : Int32) (o_w0_near : Nat → Int32) (o_w0_tail : Nat → Int32) (o_w0_head : Nat → Int32) (hm : m_Net_join F v0_nodes v0_arcCount v0_version w0_near w0_tail w0_head p1 p2 = some (ret, o_v0_arcCount, o_v0_version, o_w0_near, o_w0_tail, o_w0_head)) : Met l y_Net_join us_Net_join rm_Net_join (PcS (dC, dI) (tyL cI cJ cG cZ) [.ref a0, .int p1, .int p2] sz (wd_Net_join cI cJ cG cZ a0 a0_near a0_tail a0_head v0_nodes v0_arcCount v0_version w0_near w0_tail w0_head)) (va_Qi (fun (r : Int32) (_ : Unit) => ret = r) (fun _ t => PoS (dC, dI) (tyL cI cJ cG cZ) (wd_Net_join cI cJ cG cZ a0 a0_near a0_tail a0_head v0_nodes o_v0_arcCount o_v0_version o_w0_near o_w0_tail o_w0_head) (va_A (wd_Net_join cI cJ cG cZ a0 a0_near a0_tail a0_head v0_nodes v0_arcCount v0_version w0_near w0_tail w0_head) sz) t) (va_A (wd_Net_join cI cJ cG cZ a0 a0_near a0_tail a0_head v0_nodes v0_arcCount v0_version w0_near w0_tail w0_head) sz)) 0 0 (va_A (wd_Net_join cI cJ cG cZ a0 a0_near a0_tail a0_head v0_nodes v0_arcCount v0_version w0_near w0_tail w0_head) sz) := by
  refine Met.ofW (cc := prog_4_method_6_code) (maxL := 3) (ret := (some .int)) (by decide) rfl ?_
  intro p e s m args below meth c s₁ B hml hv
  obtain ⟨rfl, hsz, hP, hK, hD0, hNw⟩ := hv
  have hx := B.exec
  have hb := B.bytes
  have hr := B.returns
  have htt : ∀ w ∈ gtbl, w.before _ s = true := fun w h => atoms_spec (ws := us_Net_join) B.pre w (List.mem_cons_of_mem _ h)
  have hown : s.vm.findClass R_Net = some m.cls := findClass_of_methodNamed B.named
  have hlocks := B.notSynchronized
  subst hsz
  have hD := hD0.self (sz := s.heap.size)
  generalize hAe : va_A (wd_Net_join cI cJ cG cZ a0 a0_near a0_tail a0_head v0_nodes v0_arcCount v0_version w0_near w0_tail w0_head) s.heap.size = A at hD ⊢
  have hA : ∀ q : Nat, s.heap.size ≤ q → A q := fun q h => by rw [← hAe]; exact Or.inr h
  clear hAe hD0
  have hS : va_S A s.heap s.heap [] := va_S.rf
  have hl := lv_entry ([.ref a0, .int p1, .int p2]) (n := 3) (Nat.le_of_ble_eq_true rfl)
  rw [lg_entry_eq]
  generalize (lg_sl ([.ref a0, .int p1, .int p2]) ++ List.replicate (3 - (lg_sl ([.ref a0, .int p1, .int p2])).length) Slot.unset).toArray = ls at hl ⊢
  have hl : lv_has ls 3 [(0, .ref a0), (1, .int p1), (2, .int p2)] := hl
  generalize hH : s.heap = H at hP ⊢
  have hS : va_S A s.heap H [] := hH ▸ hS
  generalize hLo : ([] : List Loc) = locs at hS ⊢
  clear hH hLo
  unfold m_Net_join at hm
  refine lv_aload_n hx hb d_Net_join_0 rfl (lv_at hl 0 rfl) ?_
  refine lv_dup hx hb d_Net_join_1 rfl ?_
  refine va_get (D := (dC, dI)) (ci := 1) (v := .int v0_version) (C := R_Net) (T := T_Net) (N := 6) hx hb htt hin_Net hown hK hP 0 rfl rfl 5 (by decide) (htt _ kt_57) (fun _ h9 => h9) rfl d_Net_join_2 ?_
  refine lv_iconst (v := 1) hx hb d_Net_join_5 (by decide) ?_
  refine lv_iadd hx hb d_Net_join_6 ?_
  refine lv_topi (fun f_1 ef_1 => ?_)
  have hm := gB_at ef_1 hm
  refine va_put (D := (dC, dI)) (ci := 1) (v := .int f_1) (ty := .int) (C := R_Net) (T := T_Net) (N := 6) hx hb htt hin_Net ty_Net tyok_Net nm_Net hown hK hP hD hS 0 rfl rfl 5 (by decide) (htt _ kt_57) (fun _ h9 => h9) rfl (by decide +kernel) rfl rfl (Nat.le_of_ble_eq_true rfl) d_Net_join_7 (fun H locs hP hD hS => ?_)
  have hP : va_P (dC, dI) vwCl (wd_Net_join cI cJ cG cZ a0 a0_near a0_tail a0_head v0_nodes v0_arcCount f_1 w0_near w0_tail w0_head) H := hP
  have hD : va_D A (wd_Net_join cI cJ cG cZ a0 a0_near a0_tail a0_head v0_nodes v0_arcCount f_1 w0_near w0_tail w0_head) := hD
  refine lv_aload_n hx hb d_Net_join_10 rfl (lv_at hl 0 rfl) ?_
  refine va_get (D := (dC, dI)) (ci := 1) (v := .ref a0_near) (C := R_Net) (T := T_Net) (N := 6) hx hb htt hin_Net hown hK hP 0 rfl rfl 0 (by decide) (htt _ kt_32) (fun _ h9 => h9) rfl d_Net_join_11 ?_
  refine lv_iload_n hx hb d_Net_join_14 rfl (lv_at hl 1 rfl) ?_
  refine lv_dup2_11 hx hb d_Net_join_15 rfl rfl ?_
  obtain ⟨hi_2, hm⟩ := gC_e hm
  refine va_iald hx hb hK hP 1 0 rfl rfl (inb_vp hi_2) d_Net_join_16 ?_
  refine lv_iconst (v := 1) hx hb d_Net_join_17 (by decide) ?_
  refine lv_iload_n hx hb d_Net_join_18 rfl (lv_at hl 2 rfl) ?_
  refine lv_ishl hx hb d_Net_join_19 ?_
  refine lv_ior hx hb d_Net_join_20 ?_
  obtain ⟨hi_3, hm⟩ := gC_e hm
  refine va_iast hx hb hK hP hD hS 1 0 rfl rfl (inb_vp hi_3) d_Net_join_21 (fun H locs hP hD hS => ?_)
  have hP : va_P (dC, dI) vwCl (wd_Net_join cI cJ cG cZ a0 a0_near a0_tail a0_head v0_nodes v0_arcCount f_1 (upd w0_near p1.toNatClampNeg ((w0_near p1.toNatClampNeg) ||| ((1 : Int32) <<< (p2 &&& 31)))) w0_tail w0_head) H := hP
  have hD : va_D A (wd_Net_join cI cJ cG cZ a0 a0_near a0_tail a0_head v0_nodes v0_arcCount f_1 (upd w0_near p1.toNatClampNeg ((w0_near p1.toNatClampNeg) ||| ((1 : Int32) <<< (p2 &&& 31)))) w0_tail w0_head) := hD
  refine lv_aload_n hx hb d_Net_join_22 rfl (lv_at hl 0 rfl) ?_
  refine va_get (D := (dC, dI)) (ci := 1) (v := .ref a0_near) (C := R_Net) (T := T_Net) (N := 6) hx hb htt hin_Net hown hK hP 0 rfl rfl 0 (by decide) (htt _ kt_32) (fun _ h9 => h9) rfl d_Net_join_23 ?_
  refine lv_iload_n hx hb d_Net_join_26 rfl (lv_at hl 2 rfl) ?_
  refine lv_dup2_11 hx hb d_Net_join_27 rfl rfl ?_
  obtain ⟨hi_4, hm⟩ := gC_e hm
  refine va_iald hx hb hK hP 1 0 rfl rfl (inb_vp hi_4) d_Net_join_28 ?_
  refine lv_iconst (v := 1) hx hb d_Net_join_29 (by decide) ?_
  refine lv_iload_n hx hb d_Net_join_30 rfl (lv_at hl 1 rfl) ?_
  refine lv_ishl hx hb d_Net_join_31 ?_
  refine lv_ior hx hb d_Net_join_32 ?_
  obtain ⟨hi_5, hm⟩ := gC_e hm
  refine va_iast hx hb hK hP hD hS 1 0 rfl rfl (inb_vp hi_5) d_Net_join_33 (fun H locs hP hD hS => ?_)
  have hP : va_P (dC, dI) vwCl (wd_Net_join cI cJ cG cZ a0 a0_near a0_tail a0_head v0_nodes v0_arcCount f_1 (upd (upd w0_near p1.toNatClampNeg ((w0_near p1.toNatClampNeg) ||| ((1 : Int32) <<< (p2 &&& 31)))) p2.toNatClampNeg (((upd w0_near p1.toNatClampNeg ((w0_near p1.toNatClampNeg) ||| ((1 : Int32) <<< (p2 &&& 31)))) p2.toNatClampNeg) ||| ((1 : Int32) <<< (p1 &&& 31)))) w0_tail w0_head) H := hP
  have hD : va_D A (wd_Net_join cI cJ cG cZ a0 a0_near a0_tail a0_head v0_nodes v0_arcCount f_1 (upd (upd w0_near p1.toNatClampNeg ((w0_near p1.toNatClampNeg) ||| ((1 : Int32) <<< (p2 &&& 31)))) p2.toNatClampNeg (((upd w0_near p1.toNatClampNeg ((w0_near p1.toNatClampNeg) ||| ((1 : Int32) <<< (p2 &&& 31)))) p2.toNatClampNeg) ||| ((1 : Int32) <<< (p1 &&& 31)))) w0_tail w0_head) := hD
  refine lv_aload_n hx hb d_Net_join_34 rfl (lv_at hl 0 rfl) ?_
  refine va_get (D := (dC, dI)) (ci := 1) (v := .ref a0_tail) (C := R_Net) (T := T_Net) (N := 6) hx hb htt hin_Net hown hK hP 0 rfl rfl 1 (by decide) (htt _ kt_39) (fun _ h9 => h9) rfl d_Net_join_35 ?_
  refine lv_aload_n hx hb d_Net_join_38 rfl (lv_at hl 0 rfl) ?_
  refine va_get (D := (dC, dI)) (ci := 1) (v := .int v0_arcCount) (C := R_Net) (T := T_Net) (N := 6) hx hb htt hin_Net hown hK hP 0 rfl rfl 4 (by decide) (htt _ kt_55) (fun _ h9 => h9) rfl d_Net_join_39 ?_
  refine lv_iload_n hx hb d_Net_join_42 rfl (lv_at hl 1 rfl) ?_
  obtain ⟨hi_6, hm⟩ := gC_e hm
  refine va_iast hx hb hK hP hD hS 2 0 rfl rfl (inb_vp hi_6) d_Net_join_43 (fun H locs hP hD hS => ?_)
  have hP : va_P (dC, dI) vwCl (wd_Net_join cI cJ cG cZ a0 a0_near a0_tail a0_head v0_nodes v0_arcCount f_1 (upd (upd w0_near p1.toNatClampNeg ((w0_near p1.toNatClampNeg) ||| ((1 : Int32) <<< (p2 &&& 31)))) p2.toNatClampNeg (((upd w0_near p1.toNatClampNeg ((w0_near p1.toNatClampNeg) ||| ((1 : Int32) <<< (p2 &&& 31)))) p2.toNatClampNeg) ||| ((1 : Int32) <<< (p1 &&& 31)))) (upd w0_tail v0_arcCount.toNatClampNeg p1) w0_head) H := hP
  have hD : va_D A (wd_Net_join cI cJ cG cZ a0 a0_near a0_tail a0_head v0_nodes v0_arcCount f_1 (upd (upd w0_near p1.toNatClampNeg ((w0_near p1.toNatClampNeg) ||| ((1 : Int32) <<< (p2 &&& 31)))) p2.toNatClampNeg (((upd w0_near p1.toNatClampNeg ((w0_near p1.toNatClampNeg) ||| ((1 : Int32) <<< (p2 &&& 31)))) p2.toNatClampNeg) ||| ((1 : Int32) <<< (p1 &&& 31)))) (upd w0_tail v0_arcCount.toNatClampNeg p1) w0_head) := hD
  refine lv_aload_n hx hb d_Net_join_44 rfl (lv_at hl 0 rfl) ?_
  refine va_get (D := (dC, dI)) (ci := 1) (v := .ref a0_head) (C := R_Net) (T := T_Net) (N := 6) hx hb htt hin_Net hown hK hP 0 rfl rfl 2 (by decide) (htt _ kt_42) (fun _ h9 => h9) rfl d_Net_join_45 ?_
  refine lv_aload_n hx hb d_Net_join_48 rfl (lv_at hl 0 rfl) ?_
  refine va_get (D := (dC, dI)) (ci := 1) (v := .int v0_arcCount) (C := R_Net) (T := T_Net) (N := 6) hx hb htt hin_Net hown hK hP 0 rfl rfl 4 (by decide) (htt _ kt_55) (fun _ h9 => h9) rfl d_Net_join_49 ?_
  refine lv_iload_n hx hb d_Net_join_52 rfl (lv_at hl 2 rfl) ?_
  obtain ⟨hi_7, hm⟩ := gC_e hm
  refine va_iast hx hb hK hP hD hS 3 0 rfl rfl (inb_vp hi_7) d_Net_join_53 (fun H locs hP hD hS => ?_)
  have hP : va_P (dC, dI) vwCl (wd_Net_join cI cJ cG cZ a0 a0_near a0_tail a0_head v0_nodes v0_arcCount f_1 (upd (upd w0_near p1.toNatClampNeg ((w0_near p1.toNatClampNeg) ||| ((1 : Int32) <<< (p2 &&& 31)))) p2.toNatClampNeg (((upd w0_near p1.toNatClampNeg ((w0_near p1.toNatClampNeg) ||| ((1 : Int32) <<< (p2 &&& 31)))) p2.toNatClampNeg) ||| ((1 : Int32) <<< (p1 &&& 31)))) (upd w0_tail v0_arcCount.toNatClampNeg p1) (upd w0_head v0_arcCount.toNatClampNeg p2)) H := hP
  have hD : va_D A (wd_Net_join cI cJ cG cZ a0 a0_near a0_tail a0_head v0_nodes v0_arcCount f_1 (upd (upd w0_near p1.toNatClampNeg ((w0_near p1.toNatClampNeg) ||| ((1 : Int32) <<< (p2 &&& 31)))) p2.toNatClampNeg (((upd w0_near p1.toNatClampNeg ((w0_near p1.toNatClampNeg) ||| ((1 : Int32) <<< (p2 &&& 31)))) p2.toNatClampNeg) ||| ((1 : Int32) <<< (p1 &&& 31)))) (upd w0_tail v0_arcCount.toNatClampNeg p1) (upd w0_head v0_arcCount.toNatClampNeg p2)) := hD
  refine lv_aload_n hx hb d_Net_join_54 rfl (lv_at hl 0 rfl) ?_
  refine lv_dup hx hb d_Net_join_55 rfl ?_
  refine va_get (D := (dC, dI)) (ci := 1) (v := .int v0_arcCount) (C := R_Net) (T := T_Net) (N := 6) hx hb htt hin_Net hown hK hP 0 rfl rfl 4 (by decide) (htt _ kt_55) (fun _ h9 => h9) rfl d_Net_join_56 ?_
  refine lv_dup_x1 hx hb d_Net_join_59 rfl rfl ?_
  refine lv_iconst (v := 1) hx hb d_Net_join_60 (by decide) ?_
  refine lv_iadd hx hb d_Net_join_61 ?_
  refine lv_topi (fun f_8 ef_8 => ?_)
  have hm := gB_at ef_8 hm
  refine va_put (D := (dC, dI)) (ci := 1) (v := .int f_8) (ty := .int) (C := R_Net) (T := T_Net) (N := 6) hx hb htt hin_Net ty_Net tyok_Net nm_Net hown hK hP hD hS 0 rfl rfl 4 (by decide) (htt _ kt_55) (fun _ h9 => h9) rfl (by decide +kernel) rfl rfl (Nat.le_of_ble_eq_true rfl) d_Net_join_62 (fun H locs hP hD hS => ?_)
  have hP : va_P (dC, dI) vwCl (wd_Net_join cI cJ cG cZ a0 a0_near a0_tail a0_head v0_nodes f_8 f_1 (upd (upd w0_near p1.toNatClampNeg ((w0_near p1.toNatClampNeg) ||| ((1 : Int32) <<< (p2 &&& 31)))) p2.toNatClampNeg (((upd w0_near p1.toNatClampNeg ((w0_near p1.toNatClampNeg) ||| ((1 : Int32) <<< (p2 &&& 31)))) p2.toNatClampNeg) ||| ((1 : Int32) <<< (p1 &&& 31)))) (upd w0_tail v0_arcCount.toNatClampNeg p1) (upd w0_head v0_arcCount.toNatClampNeg p2)) H := hP
  have hD : va_D A (wd_Net_join cI cJ cG cZ a0 a0_near a0_tail a0_head v0_nodes f_8 f_1 (upd (upd w0_near p1.toNatClampNeg ((w0_near p1.toNatClampNeg) ||| ((1 : Int32) <<< (p2 &&& 31)))) p2.toNatClampNeg (((upd w0_near p1.toNatClampNeg ((w0_near p1.toNatClampNeg) ||| ((1 : Int32) <<< (p2 &&& 31)))) p2.toNatClampNeg) ||| ((1 : Int32) <<< (p1 &&& 31)))) (upd w0_tail v0_arcCount.toNatClampNeg p1) (upd w0_head v0_arcCount.toNatClampNeg p2)) := hD
  cases hm
  exact W.iret hx hb hr (fun t ht hW => ⟨⟨_, (), rfl, rfl, by rw [ht]; exact hP, va_K.moved hW.alike hK, hD⟩, hS.F ht⟩) hS.2.2 d_Net_join_65
theorem d_Net_cutLast_0 : decode prog_4_method_7_code 0 = .ok (.aload_n 0, 1) := by decide +kernel
theorem d_Net_cutLast_1 : decode prog_4_method_7_code 1 = .ok (.getfield 32, 3) := by decide +kernel
theorem d_Net_cutLast_4 : decode prog_4_method_7_code 4 = .ok (.ifCond .ne 5, 3) := by decide +kernel
theorem d_Net_cutLast_7 : decode prog_4_method_7_code 7 = .ok (.iconst 0, 1) := by decide +kernel
theorem d_Net_cutLast_8 : decode prog_4_method_7_code 8 = .ok (.ireturn, 1) := by decide +kernel
theorem d_Net_cutLast_9 : decode prog_4_method_7_code 9 = .ok (.aload_n 0, 1) := by decide +kernel
theorem d_Net_cutLast_10 : decode prog_4_method_7_code 10 = .ok (.dup, 1) := by decide +kernel
theorem d_Net_cutLast_11 : decode prog_4_method_7_code 11 = .ok (.getfield 25, 3) := by decide +kernel
theorem d_Net_cutLast_14 : decode prog_4_method_7_code 14 = .ok (.iconst 1, 1) := by decide +kernel
theorem d_Net_cutLast_15 : decode prog_4_method_7_code 15 = .ok (.iadd, 1) := by decide +kernel
theorem d_Net_cutLast_16 : decode prog_4_method_7_code 16 = .ok (.putfield 25, 3) := by decide +kernel
theorem d_Net_cutLast_19 : decode prog_4_method_7_code 19 = .ok (.aload_n 0, 1) := by decide +kernel
theorem d_Net_cutLast_20 : decode prog_4_method_7_code 20 = .ok (.dup, 1) := by decide +kernel
theorem d_Net_cutLast_21 : decode prog_4_method_7_code 21 = .ok (.getfield 32, 3) := by decide +kernel
theorem d_Net_cutLast_24 : decode prog_4_method_7_code 24 = .ok (.iconst 1, 1) := by decide +kernel
theorem d_Net_cutLast_25 : decode prog_4_method_7_code 25 = .ok (.isub, 1) := by decide +kernel
theorem d_Net_cutLast_26 : decode prog_4_method_7_code 26 = .ok (.putfield 32, 3) := by decide +kernel
theorem d_Net_cutLast_29 : decode prog_4_method_7_code 29 = .ok (.aload_n 0, 1) := by decide +kernel
theorem d_Net_cutLast_30 : decode prog_4_method_7_code 30 = .ok (.getfield 15, 3) := by decide +kernel
theorem d_Net_cutLast_33 : decode prog_4_method_7_code 33 = .ok (.aload_n 0, 1) := by decide +kernel
theorem d_Net_cutLast_34 : decode prog_4_method_7_code 34 = .ok (.getfield 32, 3) := by decide +kernel
theorem d_Net_cutLast_37 : decode prog_4_method_7_code 37 = .ok (.iaload, 1) := by decide +kernel
theorem d_Net_cutLast_38 : decode prog_4_method_7_code 38 = .ok (.istore_n 1, 1) := by decide +kernel
theorem d_Net_cutLast_39 : decode prog_4_method_7_code 39 = .ok (.aload_n 0, 1) := by decide +kernel
theorem d_Net_cutLast_40 : decode prog_4_method_7_code 40 = .ok (.getfield 18, 3) := by decide +kernel
theorem d_Net_cutLast_43 : decode prog_4_method_7_code 43 = .ok (.aload_n 0, 1) := by decide +kernel
theorem d_Net_cutLast_44 : decode prog_4_method_7_code 44 = .ok (.getfield 32, 3) := by decide +kernel
theorem d_Net_cutLast_47 : decode prog_4_method_7_code 47 = .ok (.iaload, 1) := by decide +kernel
theorem d_Net_cutLast_48 : decode prog_4_method_7_code 48 = .ok (.istore_n 2, 1) := by decide +kernel
theorem d_Net_cutLast_49 : decode prog_4_method_7_code 49 = .ok (.aload_n 0, 1) := by decide +kernel
theorem d_Net_cutLast_50 : decode prog_4_method_7_code 50 = .ok (.getfield 9, 3) := by decide +kernel
theorem d_Net_cutLast_53 : decode prog_4_method_7_code 53 = .ok (.iload_n 1, 1) := by decide +kernel
theorem d_Net_cutLast_54 : decode prog_4_method_7_code 54 = .ok (.dup2, 1) := by decide +kernel
theorem d_Net_cutLast_55 : decode prog_4_method_7_code 55 = .ok (.iaload, 1) := by decide +kernel
theorem d_Net_cutLast_56 : decode prog_4_method_7_code 56 = .ok (.iconst 1, 1) := by decide +kernel
theorem d_Net_cutLast_57 : decode prog_4_method_7_code 57 = .ok (.iload_n 2, 1) := by decide +kernel
theorem d_Net_cutLast_58 : decode prog_4_method_7_code 58 = .ok (.ishl, 1) := by decide +kernel
theorem d_Net_cutLast_59 : decode prog_4_method_7_code 59 = .ok (.iconst (-1), 1) := by decide +kernel
theorem d_Net_cutLast_60 : decode prog_4_method_7_code 60 = .ok (.ixor, 1) := by decide +kernel
theorem d_Net_cutLast_61 : decode prog_4_method_7_code 61 = .ok (.iand, 1) := by decide +kernel
theorem d_Net_cutLast_62 : decode prog_4_method_7_code 62 = .ok (.iastore, 1) := by decide +kernel
theorem d_Net_cutLast_63 : decode prog_4_method_7_code 63 = .ok (.aload_n 0, 1) := by decide +kernel
theorem d_Net_cutLast_64 : decode prog_4_method_7_code 64 = .ok (.getfield 9, 3) := by decide +kernel
theorem d_Net_cutLast_67 : decode prog_4_method_7_code 67 = .ok (.iload_n 2, 1) := by decide +kernel
theorem d_Net_cutLast_68 : decode prog_4_method_7_code 68 = .ok (.dup2, 1) := by decide +kernel
theorem d_Net_cutLast_69 : decode prog_4_method_7_code 69 = .ok (.iaload, 1) := by decide +kernel
theorem d_Net_cutLast_70 : decode prog_4_method_7_code 70 = .ok (.iconst 1, 1) := by decide +kernel
theorem d_Net_cutLast_71 : decode prog_4_method_7_code 71 = .ok (.iload_n 1, 1) := by decide +kernel
theorem d_Net_cutLast_72 : decode prog_4_method_7_code 72 = .ok (.ishl, 1) := by decide +kernel
theorem d_Net_cutLast_73 : decode prog_4_method_7_code 73 = .ok (.iconst (-1), 1) := by decide +kernel
theorem d_Net_cutLast_74 : decode prog_4_method_7_code 74 = .ok (.ixor, 1) := by decide +kernel
theorem d_Net_cutLast_75 : decode prog_4_method_7_code 75 = .ok (.iand, 1) := by decide +kernel
theorem d_Net_cutLast_76 : decode prog_4_method_7_code 76 = .ok (.iastore, 1) := by decide +kernel
theorem d_Net_cutLast_77 : decode prog_4_method_7_code 77 = .ok (.iconst 1, 1) := by decide +kernel
theorem d_Net_cutLast_78 : decode prog_4_method_7_code 78 = .ok (.ireturn, 1) := by decide +kernel
abbrev wd_Net_cutLast (cI cJ cG cZ : ClassId) (a0 a0_near a0_tail a0_head : Nat) (v0_nodes : Int32) (v0_arcCount : Int32) (v0_version : Int32) (w0_near : Nat → Int32) (w0_tail : Nat → Int32) (w0_head : Nat → Int32) : va_W := [(a0, .inr (1, [.ref a0_near, .ref a0_tail, .ref a0_head, .int v0_nodes, .int v0_arcCount, .int v0_version])), (a0_near, .inl (cI, 12, .inl w0_near)), (a0_tail, .inl (cI, 40, .inl w0_tail)), (a0_head, .inl (cI, 40, .inl w0_head))]
abbrev us_Net_cutLast : List Cond := .code y_Net_cutLast prog_4_method_7_code 3 (some .boolean) :: gtbl
abbrev rm_Net_cutLast : Room := { frames := 0, cells := 0, slots := 0, locals := 0 }
def m_Net_cutLast (F : Nat) (v0_nodes : Int32) (v0_arcCount : Int32) (v0_version : Int32) (w0_near : Nat → Int32) (w0_tail : Nat → Int32) (w0_head : Nat → Int32) : Option (Int32 × Int32 × Int32 × (Nat → Int32)) :=
  if v0_arcCount = 0 then (
    some (0, v0_arcCount, v0_version, w0_near)
  ) else (
    gB (v0_version + 1) (fun f_2 =>
    gB (v0_arcCount - 1) (fun f_3 =>
    gC (inb f_3 40) (
    gB (w0_tail f_3.toNatClampNeg) (fun x1_5 =>
    gC (inb f_3 40) (
    gB (w0_head f_3.toNatClampNeg) (fun x2_7 =>
    gC (inb x1_5 12) (
    gC (inb x1_5 12) (
    gC (inb x2_7 12) (
    gC (inb x2_7 12) (
    some (1, f_3, f_2, upd (upd w0_near x1_5.toNatClampNeg ((w0_near x1_5.toNatClampNeg) &&& (((1 : Int32) <<< (x2_7 &&& 31)) ^^^ (-1)))) x2_7.toNatClampNeg (((upd w0_near x1_5.toNatClampNeg ((w0_near x1_5.toNatClampNeg) &&& (((1 : Int32) <<< (x2_7 &&& 31)) ^^^ (-1)))) x2_7.toNatClampNeg) &&& (((1 : Int32) <<< (x1_5 &&& 31)) ^^^ (-1))))))))))))))
  )
set_option maxHeartbeats 4000000 in
set_option maxRecDepth 100000 in
theorem c_Net_cutLast (l : Launch) (dC : Nat → ClassId) (dI : Nat → Nat → Nat) (cI cJ cG cZ : ClassId) (a0 a0_near a0_tail a0_head : Nat) (sz : Nat) (F : Nat) (v0_nodes : Int32) (v0_arcCount : Int32) (v0_version : Int32) (w0_near : Nat → Int32) (w0_tail : Nat → Int32) (w0_head : Nat → Int32) (ret : Int32) (o_v0_arcCount : Int32) (o_v0_version : Int32) (o_w0_near : Nat → Int32) (hm : m_Net_cutLast F v0_nodes v0_arcCount v0_version w0_near w0_tail w0_head = some (ret, o_v0_arcCount, o_v0_version, o_w0_near)) : Met l y_Net_cutLast us_Net_cutLast rm_Net_cutLast (PcS (dC, dI) (tyL cI cJ cG cZ) [.ref a0] sz (wd_Net_cutLast cI cJ cG cZ a0 a0_near a0_tail a0_head v0_nodes v0_arcCount v0_version w0_near w0_tail w0_head)) (va_Qi (fun (r : Int32) (_ : Unit) => ret = r ∧ bz r) (fun _ t => PoS (dC, dI) (tyL cI cJ cG cZ) (wd_Net_cutLast cI cJ cG cZ a0 a0_near a0_tail a0_head v0_nodes o_v0_arcCount o_v0_version o_w0_near w0_tail w0_head) (va_A (wd_Net_cutLast cI cJ cG cZ a0 a0_near a0_tail a0_head v0_nodes v0_arcCount v0_version w0_near w0_tail w0_head) sz) t) (va_A (wd_Net_cutLast cI cJ cG cZ a0 a0_near a0_tail a0_head v0_nodes v0_arcCount v0_version w0_near w0_tail w0_head) sz)) 0 0 (va_A (wd_Net_cutLast cI cJ cG cZ a0 a0_near a0_tail a0_head v0_nodes v0_arcCount v0_version w0_near w0_tail w0_head) sz) := by
  refine Met.ofW (cc := prog_4_method_7_code) (maxL := 3) (ret := (some .boolean)) (by decide) rfl ?_
  intro p e s m args below meth c s₁ B hml hv
  obtain ⟨rfl, hsz, hP, hK, hD0, hNw⟩ := hv
  have hx := B.exec
  have hb := B.bytes
  have hr := B.returns
  have htt : ∀ w ∈ gtbl, w.before _ s = true := fun w h => atoms_spec (ws := us_Net_cutLast) B.pre w (List.mem_cons_of_mem _ h)
  have hown : s.vm.findClass R_Net = some m.cls := findClass_of_methodNamed B.named
  have hlocks := B.notSynchronized
  subst hsz
  have hD := hD0.self (sz := s.heap.size)
  generalize hAe : va_A (wd_Net_cutLast cI cJ cG cZ a0 a0_near a0_tail a0_head v0_nodes v0_arcCount v0_version w0_near w0_tail w0_head) s.heap.size = A at hD ⊢
  have hA : ∀ q : Nat, s.heap.size ≤ q → A q := fun q h => by rw [← hAe]; exact Or.inr h
  clear hAe hD0
  have hS : va_S A s.heap s.heap [] := va_S.rf
  have hl := lv_entry ([.ref a0]) (n := 3) (Nat.le_of_ble_eq_true rfl)
  rw [lg_entry_eq]
  generalize (lg_sl ([.ref a0]) ++ List.replicate (3 - (lg_sl ([.ref a0])).length) Slot.unset).toArray = ls at hl ⊢
  have hl : lv_has ls 3 [(0, .ref a0)] := hl
  generalize hH : s.heap = H at hP ⊢
  have hS : va_S A s.heap H [] := hH ▸ hS
  generalize hLo : ([] : List Loc) = locs at hS ⊢
  clear hH hLo
  unfold m_Net_cutLast at hm
  refine lv_aload_n hx hb d_Net_cutLast_0 rfl (lv_at hl 0 rfl) ?_
  refine va_get (D := (dC, dI)) (ci := 1) (v := .int v0_arcCount) (C := R_Net) (T := T_Net) (N := 6) hx hb htt hin_Net hown hK hP 0 rfl rfl 4 (by decide) (htt _ kt_55) (fun _ h9 => h9) rfl d_Net_cutLast_1 ?_
  refine lv_if_ne (tgt := 9) hx hb d_Net_cutLast_4 (by decide) (fun c_1 => ?_) (fun c_1 => ?_)
  · have hm := ite_f c_1 hm
    refine lv_aload_n hx hb d_Net_cutLast_9 rfl (lv_at hl 0 rfl) ?_
    refine lv_dup hx hb d_Net_cutLast_10 rfl ?_
    refine va_get (D := (dC, dI)) (ci := 1) (v := .int v0_version) (C := R_Net) (T := T_Net) (N := 6) hx hb htt hin_Net hown hK hP 0 rfl rfl 5 (by decide) (htt _ kt_57) (fun _ h9 => h9) rfl d_Net_cutLast_11 ?_
    refine lv_iconst (v := 1) hx hb d_Net_cutLast_14 (by decide) ?_
    refine lv_iadd hx hb d_Net_cutLast_15 ?_
    refine lv_topi (fun f_2 ef_2 => ?_)
    have hm := gB_at ef_2 hm
    refine va_put (D := (dC, dI)) (ci := 1) (v := .int f_2) (ty := .int) (C := R_Net) (T := T_Net) (N := 6) hx hb htt hin_Net ty_Net tyok_Net nm_Net hown hK hP hD hS 0 rfl rfl 5 (by decide) (htt _ kt_57) (fun _ h9 => h9) rfl (by decide +kernel) rfl rfl (Nat.le_of_ble_eq_true rfl) d_Net_cutLast_16 (fun H locs hP hD hS => ?_)
    have hP : va_P (dC, dI) vwCl (wd_Net_cutLast cI cJ cG cZ a0 a0_near a0_tail a0_head v0_nodes v0_arcCount f_2 w0_near w0_tail w0_head) H := hP
    have hD : va_D A (wd_Net_cutLast cI cJ cG cZ a0 a0_near a0_tail a0_head v0_nodes v0_arcCount f_2 w0_near w0_tail w0_head) := hD
    refine lv_aload_n hx hb d_Net_cutLast_19 rfl (lv_at hl 0 rfl) ?_
    refine lv_dup hx hb d_Net_cutLast_20 rfl ?_
    refine va_get (D := (dC, dI)) (ci := 1) (v := .int v0_arcCount) (C := R_Net) (T := T_Net) (N := 6) hx hb htt hin_Net hown hK hP 0 rfl rfl 4 (by decide) (htt _ kt_55) (fun _ h9 => h9) rfl d_Net_cutLast_21 ?_
    refine lv_iconst (v := 1) hx hb d_Net_cutLast_24 (by decide) ?_
    refine lv_isub hx hb d_Net_cutLast_25 ?_
    refine lv_topi (fun f_3 ef_3 => ?_)
    have hm := gB_at ef_3 hm
    refine va_put (D := (dC, dI)) (ci := 1) (v := .int f_3) (ty := .int) (C := R_Net) (T := T_Net) (N := 6) hx hb htt hin_Net ty_Net tyok_Net nm_Net hown hK hP hD hS 0 rfl rfl 4 (by decide) (htt _ kt_55) (fun _ h9 => h9) rfl (by decide +kernel) rfl rfl (Nat.le_of_ble_eq_true rfl) d_Net_cutLast_26 (fun H locs hP hD hS => ?_)
    have hP : va_P (dC, dI) vwCl (wd_Net_cutLast cI cJ cG cZ a0 a0_near a0_tail a0_head v0_nodes f_3 f_2 w0_near w0_tail w0_head) H := hP
    have hD : va_D A (wd_Net_cutLast cI cJ cG cZ a0 a0_near a0_tail a0_head v0_nodes f_3 f_2 w0_near w0_tail w0_head) := hD
    refine lv_aload_n hx hb d_Net_cutLast_29 rfl (lv_at hl 0 rfl) ?_
    refine va_get (D := (dC, dI)) (ci := 1) (v := .ref a0_tail) (C := R_Net) (T := T_Net) (N := 6) hx hb htt hin_Net hown hK hP 0 rfl rfl 1 (by decide) (htt _ kt_39) (fun _ h9 => h9) rfl d_Net_cutLast_30 ?_
    refine lv_aload_n hx hb d_Net_cutLast_33 rfl (lv_at hl 0 rfl) ?_
    refine va_get (D := (dC, dI)) (ci := 1) (v := .int f_3) (C := R_Net) (T := T_Net) (N := 6) hx hb htt hin_Net hown hK hP 0 rfl rfl 4 (by decide) (htt _ kt_55) (fun _ h9 => h9) rfl d_Net_cutLast_34 ?_
    obtain ⟨hi_4, hm⟩ := gC_e hm
    refine va_iald hx hb hK hP 2 0 rfl rfl (inb_vp hi_4) d_Net_cutLast_37 ?_
    refine lv_topi (fun x1_5 ex1_5 => ?_)
    have hm := gB_at ex1_5 hm
    refine lv_istore_n (lv' := [(1, .int x1_5), (0, .ref a0)]) hx hb d_Net_cutLast_38 rfl hl (by decide) rfl (fun ls hl => ?_)
    refine lv_aload_n hx hb d_Net_cutLast_39 rfl (lv_at hl 1 rfl) ?_
    refine va_get (D := (dC, dI)) (ci := 1) (v := .ref a0_head) (C := R_Net) (T := T_Net) (N := 6) hx hb htt hin_Net hown hK hP 0 rfl rfl 2 (by decide) (htt _ kt_42) (fun _ h9 => h9) rfl d_Net_cutLast_40 ?_
    refine lv_aload_n hx hb d_Net_cutLast_43 rfl (lv_at hl 1 rfl) ?_
    refine va_get (D := (dC, dI)) (ci := 1) (v := .int f_3) (C := R_Net) (T := T_Net) (N := 6) hx hb htt hin_Net hown hK hP 0 rfl rfl 4 (by decide) (htt _ kt_55) (fun _ h9 => h9) rfl d_Net_cutLast_44 ?_
    obtain ⟨hi_6, hm⟩ := gC_e hm
    refine va_iald hx hb hK hP 3 0 rfl rfl (inb_vp hi_6) d_Net_cutLast_47 ?_
    refine lv_topi (fun x2_7 ex2_7 => ?_)
    have hm := gB_at ex2_7 hm
    refine lv_istore_n (lv' := [(2, .int x2_7), (1, .int x1_5), (0, .ref a0)]) hx hb d_Net_cutLast_48 rfl hl (by decide) rfl (fun ls hl => ?_)
    refine lv_aload_n hx hb d_Net_cutLast_49 rfl (lv_at hl 2 rfl) ?_
    refine va_get (D := (dC, dI)) (ci := 1) (v := .ref a0_near) (C := R_Net) (T := T_Net) (N := 6) hx hb htt hin_Net hown hK hP 0 rfl rfl 0 (by decide) (htt _ kt_32) (fun _ h9 => h9) rfl d_Net_cutLast_50 ?_
    refine lv_iload_n hx hb d_Net_cutLast_53 rfl (lv_at hl 1 rfl) ?_
    refine lv_dup2_11 hx hb d_Net_cutLast_54 rfl rfl ?_
    obtain ⟨hi_8, hm⟩ := gC_e hm
    refine va_iald hx hb hK hP 1 0 rfl rfl (inb_vp hi_8) d_Net_cutLast_55 ?_
    refine lv_iconst (v := 1) hx hb d_Net_cutLast_56 (by decide) ?_
    refine lv_iload_n hx hb d_Net_cutLast_57 rfl (lv_at hl 0 rfl) ?_
    refine lv_ishl hx hb d_Net_cutLast_58 ?_
    refine lv_iconst (v := (-1)) hx hb d_Net_cutLast_59 (by decide) ?_
    refine lv_ixor hx hb d_Net_cutLast_60 ?_
    refine lv_iand hx hb d_Net_cutLast_61 ?_
    obtain ⟨hi_9, hm⟩ := gC_e hm
    refine va_iast hx hb hK hP hD hS 1 0 rfl rfl (inb_vp hi_9) d_Net_cutLast_62 (fun H locs hP hD hS => ?_)
    have hP : va_P (dC, dI) vwCl (wd_Net_cutLast cI cJ cG cZ a0 a0_near a0_tail a0_head v0_nodes f_3 f_2 (upd w0_near x1_5.toNatClampNeg ((w0_near x1_5.toNatClampNeg) &&& (((1 : Int32) <<< (x2_7 &&& 31)) ^^^ (-1)))) w0_tail w0_head) H := hP
    have hD : va_D A (wd_Net_cutLast cI cJ cG cZ a0 a0_near a0_tail a0_head v0_nodes f_3 f_2 (upd w0_near x1_5.toNatClampNeg ((w0_near x1_5.toNatClampNeg) &&& (((1 : Int32) <<< (x2_7 &&& 31)) ^^^ (-1)))) w0_tail w0_head) := hD
    refine lv_aload_n hx hb d_Net_cutLast_63 rfl (lv_at hl 2 rfl) ?_
    refine va_get (D := (dC, dI)) (ci := 1) (v := .ref a0_near) (C := R_Net) (T := T_Net) (N := 6) hx hb htt hin_Net hown hK hP 0 rfl rfl 0 (by decide) (htt _ kt_32) (fun _ h9 => h9) rfl d_Net_cutLast_64 ?_
    refine lv_iload_n hx hb d_Net_cutLast_67 rfl (lv_at hl 0 rfl) ?_
    refine lv_dup2_11 hx hb d_Net_cutLast_68 rfl rfl ?_
    obtain ⟨hi_10, hm⟩ := gC_e hm
    refine va_iald hx hb hK hP 1 0 rfl rfl (inb_vp hi_10) d_Net_cutLast_69 ?_
    refine lv_iconst (v := 1) hx hb d_Net_cutLast_70 (by decide) ?_
    refine lv_iload_n hx hb d_Net_cutLast_71 rfl (lv_at hl 1 rfl) ?_
    refine lv_ishl hx hb d_Net_cutLast_72 ?_
    refine lv_iconst (v := (-1)) hx hb d_Net_cutLast_73 (by decide) ?_
    refine lv_ixor hx hb d_Net_cutLast_74 ?_
    refine lv_iand hx hb d_Net_cutLast_75 ?_
    obtain ⟨hi_11, hm⟩ := gC_e hm
    refine va_iast hx hb hK hP hD hS 1 0 rfl rfl (inb_vp hi_11) d_Net_cutLast_76 (fun H locs hP hD hS => ?_)
    have hP : va_P (dC, dI) vwCl (wd_Net_cutLast cI cJ cG cZ a0 a0_near a0_tail a0_head v0_nodes f_3 f_2 (upd (upd w0_near x1_5.toNatClampNeg ((w0_near x1_5.toNatClampNeg) &&& (((1 : Int32) <<< (x2_7 &&& 31)) ^^^ (-1)))) x2_7.toNatClampNeg (((upd w0_near x1_5.toNatClampNeg ((w0_near x1_5.toNatClampNeg) &&& (((1 : Int32) <<< (x2_7 &&& 31)) ^^^ (-1)))) x2_7.toNatClampNeg) &&& (((1 : Int32) <<< (x1_5 &&& 31)) ^^^ (-1)))) w0_tail w0_head) H := hP
    have hD : va_D A (wd_Net_cutLast cI cJ cG cZ a0 a0_near a0_tail a0_head v0_nodes f_3 f_2 (upd (upd w0_near x1_5.toNatClampNeg ((w0_near x1_5.toNatClampNeg) &&& (((1 : Int32) <<< (x2_7 &&& 31)) ^^^ (-1)))) x2_7.toNatClampNeg (((upd w0_near x1_5.toNatClampNeg ((w0_near x1_5.toNatClampNeg) &&& (((1 : Int32) <<< (x2_7 &&& 31)) ^^^ (-1)))) x2_7.toNatClampNeg) &&& (((1 : Int32) <<< (x1_5 &&& 31)) ^^^ (-1)))) w0_tail w0_head) := hD
    refine lv_iconst (v := 1) hx hb d_Net_cutLast_77 (by decide) ?_
    cases hm
    exact W.zret (ty := .boolean) hx hb hr (bz_nar (by decide : bz 1)) (fun t ht hW => ⟨⟨_, (), rfl, ⟨rfl, (by decide : bz 1)⟩, by rw [ht]; exact hP, va_K.moved hW.alike hK, hD⟩, hS.F ht⟩) hS.2.2 d_Net_cutLast_78
  · have hm := ite_t c_1 hm
    refine lv_iconst (v := 0) hx hb d_Net_cutLast_7 (by decide) ?_
    cases hm
    exact W.zret (ty := .boolean) hx hb hr (bz_nar (by decide : bz 0)) (fun t ht hW => ⟨⟨_, (), rfl, ⟨rfl, (by decide : bz 0)⟩, by rw [ht]; exact hP, va_K.moved hW.alike hK, hD⟩, hS.F ht⟩) hS.2.2 d_Net_cutLast_8
theorem d_Net_removeAll_0 : decode prog_4_method_8_code 0 = .ok (.aload_n 0, 1) := by decide +kernel
theorem d_Net_removeAll_1 : decode prog_4_method_8_code 1 = .ok (.dup, 1) := by decide +kernel
theorem d_Net_removeAll_2 : decode prog_4_method_8_code 2 = .ok (.getfield 25, 3) := by decide +kernel
theorem d_Net_removeAll_5 : decode prog_4_method_8_code 5 = .ok (.iconst 1, 1) := by decide +kernel
theorem d_Net_removeAll_6 : decode prog_4_method_8_code 6 = .ok (.iadd, 1) := by decide +kernel
theorem d_Net_removeAll_7 : decode prog_4_method_8_code 7 = .ok (.putfield 25, 3) := by decide +kernel
theorem d_Net_removeAll_10 : decode prog_4_method_8_code 10 = .ok (.aload_n 0, 1) := by decide +kernel
theorem d_Net_removeAll_11 : decode prog_4_method_8_code 11 = .ok (.iconst 0, 1) := by decide +kernel
theorem d_Net_removeAll_12 : decode prog_4_method_8_code 12 = .ok (.putfield 21, 3) := by decide +kernel
theorem d_Net_removeAll_15 : decode prog_4_method_8_code 15 = .ok (.aload_n 0, 1) := by decide +kernel
theorem d_Net_removeAll_16 : decode prog_4_method_8_code 16 = .ok (.iconst 0, 1) := by decide +kernel
theorem d_Net_removeAll_17 : decode prog_4_method_8_code 17 = .ok (.putfield 32, 3) := by decide +kernel
theorem d_Net_removeAll_20 : decode prog_4_method_8_code 20 = .ok (.aload_n 0, 1) := by decide +kernel
theorem d_Net_removeAll_21 : decode prog_4_method_8_code 21 = .ok (.getfield 9, 3) := by decide +kernel
theorem d_Net_removeAll_24 : decode prog_4_method_8_code 24 = .ok (.iconst 0, 1) := by decide +kernel
theorem d_Net_removeAll_25 : decode prog_4_method_8_code 25 = .ok (.invokestatic 35, 3) := by decide +kernel
theorem d_Net_removeAll_28 : decode prog_4_method_8_code 28 = .ok (.return_, 1) := by decide +kernel
abbrev wd_Net_removeAll (cI cJ cG cZ : ClassId) (a0 a0_near a0_tail a0_head : Nat) (v0_nodes : Int32) (v0_arcCount : Int32) (v0_version : Int32) (w0_near : Nat → Int32) : va_W := [(a0, .inr (1, [.ref a0_near, .ref a0_tail, .ref a0_head, .int v0_nodes, .int v0_arcCount, .int v0_version])), (a0_near, .inl (cI, 12, .inl w0_near))]
abbrev us_Net_removeAll : List Cond := .code y_Net_removeAll prog_4_method_8_code 1 none :: gtbl
abbrev rm_Net_removeAll : Room := { frames := 1, cells := 0, slots := 0, locals := 24 }
def m_Net_removeAll (F : Nat) (v0_nodes : Int32) (v0_arcCount : Int32) (v0_version : Int32) (w0_near : Nat → Int32) : Option (Int32 × Int32 × Int32 × (Nat → Int32)) :=
  gB (v0_version + 1) (fun f_1 =>
  some (0, 0, f_1, fillA 12 (0 : Int32) w0_near))
set_option maxHeartbeats 4000000 in
set_option maxRecDepth 100000 in
theorem c_Net_removeAll (l : Launch) (dC : Nat → ClassId) (dI : Nat → Nat → Nat) (cI cJ cG cZ : ClassId) (a0 a0_near a0_tail a0_head : Nat) (sz : Nat) (F : Nat) (v0_nodes : Int32) (v0_arcCount : Int32) (v0_version : Int32) (w0_near : Nat → Int32) (o_v0_nodes : Int32) (o_v0_arcCount : Int32) (o_v0_version : Int32) (o_w0_near : Nat → Int32) (hm : m_Net_removeAll F v0_nodes v0_arcCount v0_version w0_near = some (o_v0_nodes, o_v0_arcCount, o_v0_version, o_w0_near)) : Met l y_Net_removeAll us_Net_removeAll rm_Net_removeAll (PcS (dC, dI) (tyL cI cJ cG cZ) [.ref a0] sz (wd_Net_removeAll cI cJ cG cZ a0 a0_near a0_tail a0_head v0_nodes v0_arcCount v0_version w0_near)) (va_Qv (fun (_ : Unit) => True) (fun _ t => PoS (dC, dI) (tyL cI cJ cG cZ) (wd_Net_removeAll cI cJ cG cZ a0 a0_near a0_tail a0_head o_v0_nodes o_v0_arcCount o_v0_version o_w0_near) (va_A (wd_Net_removeAll cI cJ cG cZ a0 a0_near a0_tail a0_head v0_nodes v0_arcCount v0_version w0_near) sz) t) (va_A (wd_Net_removeAll cI cJ cG cZ a0 a0_near a0_tail a0_head v0_nodes v0_arcCount v0_version w0_near) sz)) 0 0 (va_A (wd_Net_removeAll cI cJ cG cZ a0 a0_near a0_tail a0_head v0_nodes v0_arcCount v0_version w0_near) sz) := by
  refine Met.ofW (cc := prog_4_method_8_code) (maxL := 1) (ret := none) (by decide) rfl ?_
  intro p e s m args below meth c s₁ B hml hv
  obtain ⟨rfl, hsz, hP, hK, hD0, hNw⟩ := hv
  have hx := B.exec
  have hb := B.bytes
  have hr := B.returns
  have htt : ∀ w ∈ gtbl, w.before _ s = true := fun w h => atoms_spec (ws := us_Net_removeAll) B.pre w (List.mem_cons_of_mem _ h)
  have hown : s.vm.findClass R_Net = some m.cls := findClass_of_methodNamed B.named
  have hlocks := B.notSynchronized
  subst hsz
  have hD := hD0.self (sz := s.heap.size)
  generalize hAe : va_A (wd_Net_removeAll cI cJ cG cZ a0 a0_near a0_tail a0_head v0_nodes v0_arcCount v0_version w0_near) s.heap.size = A at hD ⊢
  have hA : ∀ q : Nat, s.heap.size ≤ q → A q := fun q h => by rw [← hAe]; exact Or.inr h
  clear hAe hD0
  have hS : va_S A s.heap s.heap [] := va_S.rf
  have hl := lv_entry ([.ref a0]) (n := 1) (Nat.le_of_ble_eq_true rfl)
  rw [lg_entry_eq]
  generalize (lg_sl ([.ref a0]) ++ List.replicate (1 - (lg_sl ([.ref a0])).length) Slot.unset).toArray = ls at hl ⊢
  have hl : lv_has ls 1 [(0, .ref a0)] := hl
  generalize hH : s.heap = H at hP ⊢
  have hS : va_S A s.heap H [] := hH ▸ hS
  generalize hLo : ([] : List Loc) = locs at hS ⊢
  clear hH hLo
  unfold m_Net_removeAll at hm
  refine lv_aload_n hx hb d_Net_removeAll_0 rfl (lv_at hl 0 rfl) ?_
  refine lv_dup hx hb d_Net_removeAll_1 rfl ?_
  refine va_get (D := (dC, dI)) (ci := 1) (v := .int v0_version) (C := R_Net) (T := T_Net) (N := 6) hx hb htt hin_Net hown hK hP 0 rfl rfl 5 (by decide) (htt _ kt_57) (fun _ h9 => h9) rfl d_Net_removeAll_2 ?_
  refine lv_iconst (v := 1) hx hb d_Net_removeAll_5 (by decide) ?_
  refine lv_iadd hx hb d_Net_removeAll_6 ?_
  refine lv_topi (fun f_1 ef_1 => ?_)
  have hm := gB_at ef_1 hm
  refine va_put (D := (dC, dI)) (ci := 1) (v := .int f_1) (ty := .int) (C := R_Net) (T := T_Net) (N := 6) hx hb htt hin_Net ty_Net tyok_Net nm_Net hown hK hP hD hS 0 rfl rfl 5 (by decide) (htt _ kt_57) (fun _ h9 => h9) rfl (by decide +kernel) rfl rfl (Nat.le_of_ble_eq_true rfl) d_Net_removeAll_7 (fun H locs hP hD hS => ?_)
  have hP : va_P (dC, dI) vwCl (wd_Net_removeAll cI cJ cG cZ a0 a0_near a0_tail a0_head v0_nodes v0_arcCount f_1 w0_near) H := hP
  have hD : va_D A (wd_Net_removeAll cI cJ cG cZ a0 a0_near a0_tail a0_head v0_nodes v0_arcCount f_1 w0_near) := hD
  refine lv_aload_n hx hb d_Net_removeAll_10 rfl (lv_at hl 0 rfl) ?_
  refine lv_iconst (v := 0) hx hb d_Net_removeAll_11 (by decide) ?_
  refine va_put (D := (dC, dI)) (ci := 1) (v := .int 0) (ty := .int) (C := R_Net) (T := T_Net) (N := 6) hx hb htt hin_Net ty_Net tyok_Net nm_Net hown hK hP hD hS 0 rfl rfl 3 (by decide) (htt _ kt_47) (fun _ h9 => h9) rfl (by decide +kernel) rfl rfl (Nat.le_of_ble_eq_true rfl) d_Net_removeAll_12 (fun H locs hP hD hS => ?_)
  have hP : va_P (dC, dI) vwCl (wd_Net_removeAll cI cJ cG cZ a0 a0_near a0_tail a0_head 0 v0_arcCount f_1 w0_near) H := hP
  have hD : va_D A (wd_Net_removeAll cI cJ cG cZ a0 a0_near a0_tail a0_head 0 v0_arcCount f_1 w0_near) := hD
  refine lv_aload_n hx hb d_Net_removeAll_15 rfl (lv_at hl 0 rfl) ?_
  refine lv_iconst (v := 0) hx hb d_Net_removeAll_16 (by decide) ?_
  refine va_put (D := (dC, dI)) (ci := 1) (v := .int 0) (ty := .int) (C := R_Net) (T := T_Net) (N := 6) hx hb htt hin_Net ty_Net tyok_Net nm_Net hown hK hP hD hS 0 rfl rfl 4 (by decide) (htt _ kt_55) (fun _ h9 => h9) rfl (by decide +kernel) rfl rfl (Nat.le_of_ble_eq_true rfl) d_Net_removeAll_17 (fun H locs hP hD hS => ?_)
  have hP : va_P (dC, dI) vwCl (wd_Net_removeAll cI cJ cG cZ a0 a0_near a0_tail a0_head 0 0 f_1 w0_near) H := hP
  have hD : va_D A (wd_Net_removeAll cI cJ cG cZ a0 a0_near a0_tail a0_head 0 0 f_1 w0_near) := hD
  refine lv_aload_n hx hb d_Net_removeAll_20 rfl (lv_at hl 0 rfl) ?_
  refine va_get (D := (dC, dI)) (ci := 1) (v := .ref a0_near) (C := R_Net) (T := T_Net) (N := 6) hx hb htt hin_Net hown hK hP 0 rfl rfl 0 (by decide) (htt _ kt_32) (fun _ h9 => h9) rfl d_Net_removeAll_21 ?_
  refine lv_iconst (v := 0) hx hb d_Net_removeAll_24 (by decide) ?_
  refine gx_filli hx hb hml hown htt kt_664 hK hNw hP hD hS hA 1 rfl (by decide) hl.1 (lv_room (Nat.le_of_ble_eq_true rfl)) (Nat.le_of_ble_eq_true rfl) (Nat.le_of_ble_eq_true rfl) (Nat.zero_le _) (Nat.zero_le _) d_Net_removeAll_25 (fun H locs hP hD hS => ?_)
  have hP : va_P (dC, dI) vwCl (wd_Net_removeAll cI cJ cG cZ a0 a0_near a0_tail a0_head 0 0 f_1 (fillA 12 (0 : Int32) w0_near)) H := hP
  have hD : va_D A (wd_Net_removeAll cI cJ cG cZ a0 a0_near a0_tail a0_head 0 0 f_1 (fillA 12 (0 : Int32) w0_near)) := hD
  cases hm
  exact W.vret hx hb hr (fun t ht hW => ⟨⟨(), rfl, trivial, by rw [ht]; exact hP, va_K.moved hW.alike hK, hD⟩, hS.F ht⟩) hS.2.2 d_Net_removeAll_28
theorem d_Net_mostNear_0 : decode prog_4_method_9_code 0 = .ok (.iconst 0, 1) := by decide +kernel
theorem d_Net_mostNear_1 : decode prog_4_method_9_code 1 = .ok (.istore_n 1, 1) := by decide +kernel
theorem d_Net_mostNear_2 : decode prog_4_method_9_code 2 = .ok (.iconst 0, 1) := by decide +kernel
theorem d_Net_mostNear_3 : decode prog_4_method_9_code 3 = .ok (.istore_n 2, 1) := by decide +kernel
theorem d_Net_mostNear_4 : decode prog_4_method_9_code 4 = .ok (.iload_n 2, 1) := by decide +kernel
theorem d_Net_mostNear_5 : decode prog_4_method_9_code 5 = .ok (.aload_n 0, 1) := by decide +kernel
theorem d_Net_mostNear_6 : decode prog_4_method_9_code 6 = .ok (.getfield 21, 3) := by decide +kernel
theorem d_Net_mostNear_9 : decode prog_4_method_9_code 9 = .ok (.if_icmp .ge 23, 3) := by decide +kernel
theorem d_Net_mostNear_12 : decode prog_4_method_9_code 12 = .ok (.iload_n 1, 1) := by decide +kernel
theorem d_Net_mostNear_13 : decode prog_4_method_9_code 13 = .ok (.aload_n 0, 1) := by decide +kernel
theorem d_Net_mostNear_14 : decode prog_4_method_9_code 14 = .ok (.getfield 9, 3) := by decide +kernel
theorem d_Net_mostNear_17 : decode prog_4_method_9_code 17 = .ok (.iload_n 2, 1) := by decide +kernel
theorem d_Net_mostNear_18 : decode prog_4_method_9_code 18 = .ok (.iaload, 1) := by decide +kernel
theorem d_Net_mostNear_19 : decode prog_4_method_9_code 19 = .ok (.invokestatic 41, 3) := by decide +kernel
theorem d_Net_mostNear_22 : decode prog_4_method_9_code 22 = .ok (.invokestatic 47, 3) := by decide +kernel
theorem d_Net_mostNear_25 : decode prog_4_method_9_code 25 = .ok (.istore_n 1, 1) := by decide +kernel
theorem d_Net_mostNear_26 : decode prog_4_method_9_code 26 = .ok (.iinc 2 1, 3) := by decide +kernel
theorem d_Net_mostNear_29 : decode prog_4_method_9_code 29 = .ok (.goto (-25), 3) := by decide +kernel
theorem d_Net_mostNear_32 : decode prog_4_method_9_code 32 = .ok (.iload_n 1, 1) := by decide +kernel
theorem d_Net_mostNear_33 : decode prog_4_method_9_code 33 = .ok (.ireturn, 1) := by decide +kernel
abbrev wd_Net_mostNear (cI cJ cG cZ : ClassId) (a0 a0_near a0_tail a0_head : Nat) (v0_nodes : Int32) (v0_arcCount : Int32) (v0_version : Int32) (w0_near : Nat → Int32) : va_W := [(a0, .inr (1, [.ref a0_near, .ref a0_tail, .ref a0_head, .int v0_nodes, .int v0_arcCount, .int v0_version])), (a0_near, .inl (cI, 12, .inl w0_near))]
abbrev us_Net_mostNear : List Cond := .code y_Net_mostNear prog_4_method_9_code 3 (some .int) :: gtbl
abbrev rm_Net_mostNear : Room := { frames := 1, cells := 0, slots := 0, locals := 24 }
def m_Net_mostNear (F : Nat) (v0_nodes : Int32) (v0_arcCount : Int32) (v0_version : Int32) (w0_near : Nat → Int32) : Option (Int32) :=
  gL (fun (k_4 : (Int32 × Int32) → Option (Int32)) (z_4 : Int32 × Int32) => match z_4 with
  | (x1_1, x2_2) =>
  if v0_nodes ≤ x2_2 then (
    some x1_1
  ) else (
    gC (inb x2_2 12) (
    gB (maxI x1_1 (bitc (w0_near x2_2.toNatClampNeg))) (fun x1_5 =>
    gB (x2_2 + 1) (fun x2_6 =>
    k_4 (x1_5, x2_6))))
  )
  ) F (0, 0)
set_option maxHeartbeats 4000000 in
set_option maxRecDepth 100000 in
theorem c_Net_mostNear (l : Launch) (dC : Nat → ClassId) (dI : Nat → Nat → Nat) (cI cJ cG cZ : ClassId) (a0 a0_near a0_tail a0_head : Nat) (sz : Nat) (F : Nat) (v0_nodes : Int32) (v0_arcCount : Int32) (v0_version : Int32) (w0_near : Nat → Int32) (ret : Int32) (hm : m_Net_mostNear F v0_nodes v0_arcCount v0_version w0_near = some ret) : Met l y_Net_mostNear us_Net_mostNear rm_Net_mostNear (PcS (dC, dI) (tyL cI cJ cG cZ) [.ref a0] sz (wd_Net_mostNear cI cJ cG cZ a0 a0_near a0_tail a0_head v0_nodes v0_arcCount v0_version w0_near)) (va_Qi (fun (r : Int32) (_ : Unit) => ret = r) (fun _ t => PoS (dC, dI) (tyL cI cJ cG cZ) (wd_Net_mostNear cI cJ cG cZ a0 a0_near a0_tail a0_head v0_nodes v0_arcCount v0_version w0_near) (va_A (wd_Net_mostNear cI cJ cG cZ a0 a0_near a0_tail a0_head v0_nodes v0_arcCount v0_version w0_near) sz) t) (va_A (wd_Net_mostNear cI cJ cG cZ a0 a0_near a0_tail a0_head v0_nodes v0_arcCount v0_version w0_near) sz)) 0 0 (va_A (wd_Net_mostNear cI cJ cG cZ a0 a0_near a0_tail a0_head v0_nodes v0_arcCount v0_version w0_near) sz) := by
  refine Met.ofW (cc := prog_4_method_9_code) (maxL := 3) (ret := (some .int)) (by decide) rfl ?_
  intro p e s m args below meth c s₁ B hml hv
  obtain ⟨rfl, hsz, hP, hK, hD0, hNw⟩ := hv
  have hx := B.exec
  have hb := B.bytes
  have hr := B.returns
  have htt : ∀ w ∈ gtbl, w.before _ s = true := fun w h => atoms_spec (ws := us_Net_mostNear) B.pre w (List.mem_cons_of_mem _ h)
  have hown : s.vm.findClass R_Net = some m.cls := findClass_of_methodNamed B.named
  have hlocks := B.notSynchronized
  subst hsz
  have hD := hD0.self (sz := s.heap.size)
  generalize hAe : va_A (wd_Net_mostNear cI cJ cG cZ a0 a0_near a0_tail a0_head v0_nodes v0_arcCount v0_version w0_near) s.heap.size = A at hD ⊢
  have hA : ∀ q : Nat, s.heap.size ≤ q → A q := fun q h => by rw [← hAe]; exact Or.inr h
  clear hAe hD0
  have hS : va_S A s.heap s.heap [] := va_S.rf
  have hl := lv_entry ([.ref a0]) (n := 3) (Nat.le_of_ble_eq_true rfl)
  rw [lg_entry_eq]
  generalize (lg_sl ([.ref a0]) ++ List.replicate (3 - (lg_sl ([.ref a0])).length) Slot.unset).toArray = ls at hl ⊢
  have hl : lv_has ls 3 [(0, .ref a0)] := hl
  generalize hH : s.heap = H at hP ⊢
  have hS : va_S A s.heap H [] := hH ▸ hS
  generalize hLo : ([] : List Loc) = locs at hS ⊢
  clear hH hLo
  unfold m_Net_mostNear at hm
  refine lv_iconst (v := 0) hx hb d_Net_mostNear_0 (by decide) ?_
  refine lv_istore_n (lv' := [(1, .int 0), (0, .ref a0)]) hx hb d_Net_mostNear_1 rfl hl (by decide) rfl (fun ls hl => ?_)
  refine lv_iconst (v := 0) hx hb d_Net_mostNear_2 (by decide) ?_
  refine lv_istore_n (lv' := [(2, .int 0), (1, .int 0), (0, .ref a0)]) hx hb d_Net_mostNear_3 rfl hl (by decide) rfl (fun ls hl => ?_)
  refine gL_e (P := (fun (z_4 : Int32 × Int32) => ∀ (x1_1 : Int32), ∀ (x2_2 : Int32), z_4 = (x1_1, x2_2) → ∀ (ls : Array Slot) (H : Heap) (locs : List Loc), lv_has ls 3 [(0, .ref a0), (1, .int x1_1), (2, .int x2_2)] → va_P (dC, dI) vwCl (wd_Net_mostNear cI cJ cG cZ a0 a0_near a0_tail a0_head v0_nodes v0_arcCount v0_version w0_near) H → va_D A (wd_Net_mostNear cI cJ cG cZ a0 a0_near a0_tail a0_head v0_nodes v0_arcCount v0_version w0_near) → va_S A s.heap H locs → W p l e (headSpec us_Net_mostNear rm_Net_mostNear).room s m ([.ref a0] : List Value).toArray below meth c H locs 0 0 (MQ below (va_Qi (fun (r : Int32) (_ : Unit) => ret = r) (fun _ t => PoS (dC, dI) (tyL cI cJ cG cZ) (wd_Net_mostNear cI cJ cG cZ a0 a0_near a0_tail a0_head v0_nodes v0_arcCount v0_version w0_near) A t) A) ([.ref a0] : List Value).toArray s 0 0 A) (F0 m 4 ls []))) hm (fun k_4 z_4 ih_4 hm => ?_) _ _ rfl ls H locs (lv_sub hl [2, 1, 0] rfl) hP hD hS
  intro x1_1 x2_2 hz ls H locs hl hP hD hS
  subst hz
  dsimp only at hm
  refine lv_iload_n hx hb d_Net_mostNear_4 rfl (lv_at hl 2 rfl) ?_
  refine lv_aload_n hx hb d_Net_mostNear_5 rfl (lv_at hl 0 rfl) ?_
  refine va_get (D := (dC, dI)) (ci := 1) (v := .int v0_nodes) (C := R_Net) (T := T_Net) (N := 6) hx hb htt hin_Net hown hK hP 0 rfl rfl 3 (by decide) (htt _ kt_47) (fun _ h9 => h9) rfl d_Net_mostNear_6 ?_
  refine lv_icmp_ge (tgt := 32) hx hb d_Net_mostNear_9 (by decide) (fun c_3 => ?_) (fun c_3 => ?_)
  · have hm := ite_t c_3 hm
    refine lv_iload_n hx hb d_Net_mostNear_32 rfl (lv_at hl 1 rfl) ?_
    cases hm
    exact W.iret hx hb hr (fun t ht hW => ⟨⟨_, (), rfl, rfl, by rw [ht]; exact hP, va_K.moved hW.alike hK, hD⟩, hS.F ht⟩) hS.2.2 d_Net_mostNear_33
  · have hm := ite_f c_3 hm
    refine lv_iload_n hx hb d_Net_mostNear_12 rfl (lv_at hl 1 rfl) ?_
    refine lv_aload_n hx hb d_Net_mostNear_13 rfl (lv_at hl 0 rfl) ?_
    refine va_get (D := (dC, dI)) (ci := 1) (v := .ref a0_near) (C := R_Net) (T := T_Net) (N := 6) hx hb htt hin_Net hown hK hP 0 rfl rfl 0 (by decide) (htt _ kt_32) (fun _ h9 => h9) rfl d_Net_mostNear_14 ?_
    refine lv_iload_n hx hb d_Net_mostNear_17 rfl (lv_at hl 2 rfl) ?_
    obtain ⟨hi_4, hm⟩ := gC_e hm
    refine va_iald hx hb hK hP 1 0 rfl rfl (inb_vp hi_4) d_Net_mostNear_18 ?_
    refine gx_bit hx hb hml hown htt kt_642 hK hNw hP hD hS hA hl.1 (lv_room (Nat.le_of_ble_eq_true rfl)) (Nat.le_of_ble_eq_true rfl) (Nat.le_of_ble_eq_true rfl) (Nat.zero_le _) (Nat.zero_le _) d_Net_mostNear_19 (fun H locs hP hD hS => ?_)
    refine gx_mmax hx hb hml hown htt kt_643 hl.1 (lv_room (Nat.le_of_ble_eq_true rfl)) (Nat.le_of_ble_eq_true rfl) (Nat.le_of_ble_eq_true rfl) (Nat.zero_le _) (Nat.zero_le _) d_Net_mostNear_22 ?_
    refine lv_topi (fun x1_5 ex1_5 => ?_)
    have hm := gB_at ex1_5 hm
    refine lv_istore_n (lv' := [(1, .int x1_5), (0, .ref a0), (2, .int x2_2)]) hx hb d_Net_mostNear_25 rfl hl (by decide) rfl (fun ls hl => ?_)
    obtain ⟨x2_6, ex2_6⟩ : ∃ y : Int32, y = x2_2 + 1 := ⟨_, rfl⟩
    have hm := gB_at ex2_6 hm
    refine lv_iinc (v := x2_6) (lv' := [(2, .int x2_6), (1, .int x1_5), (0, .ref a0)]) hx hb d_Net_mostNear_26 hl (k := 2) rfl (by rw [ex2_6]; rfl) (by decide) rfl (fun ls hl => ?_)
    refine lv_goto (tgt := 4) hx hb d_Net_mostNear_29 (by decide) ?_
    exact ih_4 _ hm _ _ rfl ls H locs (lv_sub hl [2, 1, 0] rfl) hP hD hS
theorem d_Net_allNear_0 : decode prog_4_method_10_code 0 = .ok (.iconst 0, 1) := by decide +kernel
theorem d_Net_allNear_1 : decode prog_4_method_10_code 1 = .ok (.istore_n 2, 1) := by decide +kernel
theorem d_Net_allNear_2 : decode prog_4_method_10_code 2 = .ok (.iload_n 2, 1) := by decide +kernel
theorem d_Net_allNear_3 : decode prog_4_method_10_code 3 = .ok (.aload_n 0, 1) := by decide +kernel
theorem d_Net_allNear_4 : decode prog_4_method_10_code 4 = .ok (.getfield 21, 3) := by decide +kernel
theorem d_Net_allNear_7 : decode prog_4_method_10_code 7 = .ok (.if_icmp .ge 35, 3) := by decide +kernel
theorem d_Net_allNear_10 : decode prog_4_method_10_code 10 = .ok (.iload_n 1, 1) := by decide +kernel
theorem d_Net_allNear_11 : decode prog_4_method_10_code 11 = .ok (.iload_n 2, 1) := by decide +kernel
theorem d_Net_allNear_12 : decode prog_4_method_10_code 12 = .ok (.ishr, 1) := by decide +kernel
theorem d_Net_allNear_13 : decode prog_4_method_10_code 13 = .ok (.iconst 1, 1) := by decide +kernel
theorem d_Net_allNear_14 : decode prog_4_method_10_code 14 = .ok (.iand, 1) := by decide +kernel
theorem d_Net_allNear_15 : decode prog_4_method_10_code 15 = .ok (.ifCond .eq 21, 3) := by decide +kernel
theorem d_Net_allNear_18 : decode prog_4_method_10_code 18 = .ok (.iload_n 1, 1) := by decide +kernel
theorem d_Net_allNear_19 : decode prog_4_method_10_code 19 = .ok (.aload_n 0, 1) := by decide +kernel
theorem d_Net_allNear_20 : decode prog_4_method_10_code 20 = .ok (.getfield 9, 3) := by decide +kernel
theorem d_Net_allNear_23 : decode prog_4_method_10_code 23 = .ok (.iload_n 2, 1) := by decide +kernel
theorem d_Net_allNear_24 : decode prog_4_method_10_code 24 = .ok (.iaload, 1) := by decide +kernel
theorem d_Net_allNear_25 : decode prog_4_method_10_code 25 = .ok (.iconst (-1), 1) := by decide +kernel
theorem d_Net_allNear_26 : decode prog_4_method_10_code 26 = .ok (.ixor, 1) := by decide +kernel
theorem d_Net_allNear_27 : decode prog_4_method_10_code 27 = .ok (.iand, 1) := by decide +kernel
theorem d_Net_allNear_28 : decode prog_4_method_10_code 28 = .ok (.iconst 1, 1) := by decide +kernel
theorem d_Net_allNear_29 : decode prog_4_method_10_code 29 = .ok (.iload_n 2, 1) := by decide +kernel
theorem d_Net_allNear_30 : decode prog_4_method_10_code 30 = .ok (.ishl, 1) := by decide +kernel
theorem d_Net_allNear_31 : decode prog_4_method_10_code 31 = .ok (.if_icmp .eq 5, 3) := by decide +kernel
theorem d_Net_allNear_34 : decode prog_4_method_10_code 34 = .ok (.iconst 0, 1) := by decide +kernel
theorem d_Net_allNear_35 : decode prog_4_method_10_code 35 = .ok (.ireturn, 1) := by decide +kernel
theorem d_Net_allNear_36 : decode prog_4_method_10_code 36 = .ok (.iinc 2 1, 3) := by decide +kernel
theorem d_Net_allNear_39 : decode prog_4_method_10_code 39 = .ok (.goto (-37), 3) := by decide +kernel
theorem d_Net_allNear_42 : decode prog_4_method_10_code 42 = .ok (.iconst 1, 1) := by decide +kernel
theorem d_Net_allNear_43 : decode prog_4_method_10_code 43 = .ok (.ireturn, 1) := by decide +kernel
abbrev wd_Net_allNear (cI cJ cG cZ : ClassId) (a0 a0_near a0_tail a0_head : Nat) (v0_nodes : Int32) (v0_arcCount : Int32) (v0_version : Int32) (w0_near : Nat → Int32) : va_W := [(a0, .inr (1, [.ref a0_near, .ref a0_tail, .ref a0_head, .int v0_nodes, .int v0_arcCount, .int v0_version])), (a0_near, .inl (cI, 12, .inl w0_near))]
abbrev us_Net_allNear : List Cond := .code y_Net_allNear prog_4_method_10_code 3 (some .boolean) :: gtbl
abbrev rm_Net_allNear : Room := { frames := 0, cells := 0, slots := 0, locals := 0 }
def m_Net_allNear (F : Nat) (v0_nodes : Int32) (v0_arcCount : Int32) (v0_version : Int32) (w0_near : Nat → Int32) (p1 : Int32) : Option (Int32) :=
  gL (fun (k_2 : Int32 → Option (Int32)) (x2_1 : Int32) =>
  if v0_nodes ≤ x2_1 then (
    some 1
  ) else (
    if ((p1 >>> (x2_1 &&& 31)) &&& 1) = 0 then (
      gB (x2_1 + 1) (fun x2_4 =>
      k_2 x2_4)
    ) else (
      gC (inb x2_1 12) (
      if (p1 &&& ((w0_near x2_1.toNatClampNeg) ^^^ (-1))) = ((1 : Int32) <<< (x2_1 &&& 31)) then (
        gB (x2_1 + 1) (fun x2_7 =>
        k_2 x2_7)
      ) else (
        some 0
      ))
    )
  )
  ) F 0
set_option maxHeartbeats 4000000 in
set_option maxRecDepth 100000 in
theorem c_Net_allNear (l : Launch) (dC : Nat → ClassId) (dI : Nat → Nat → Nat) (cI cJ cG cZ : ClassId) (a0 a0_near a0_tail a0_head : Nat) (sz : Nat) (F : Nat) (v0_nodes : Int32) (v0_arcCount : Int32) (v0_version : Int32) (w0_near : Nat → Int32) (p1 : Int32) (ret : Int32) (hm : m_Net_allNear F v0_nodes v0_arcCount v0_version w0_near p1 = some ret) : Met l y_Net_allNear us_Net_allNear rm_Net_allNear (PcS (dC, dI) (tyL cI cJ cG cZ) [.ref a0, .int p1] sz (wd_Net_allNear cI cJ cG cZ a0 a0_near a0_tail a0_head v0_nodes v0_arcCount v0_version w0_near)) (va_Qi (fun (r : Int32) (_ : Unit) => ret = r ∧ bz r) (fun _ t => PoS (dC, dI) (tyL cI cJ cG cZ) (wd_Net_allNear cI cJ cG cZ a0 a0_near a0_tail a0_head v0_nodes v0_arcCount v0_version w0_near) (va_A (wd_Net_allNear cI cJ cG cZ a0 a0_near a0_tail a0_head v0_nodes v0_arcCount v0_version w0_near) sz) t) (va_A (wd_Net_allNear cI cJ cG cZ a0 a0_near a0_tail a0_head v0_nodes v0_arcCount v0_version w0_near) sz)) 0 0 (va_A (wd_Net_allNear cI cJ cG cZ a0 a0_near a0_tail a0_head v0_nodes v0_arcCount v0_version w0_near) sz) := by
  refine Met.ofW (cc := prog_4_method_10_code) (maxL := 3) (ret := (some .boolean)) (by decide) rfl ?_
  intro p e s m args below meth c s₁ B hml hv
  obtain ⟨rfl, hsz, hP, hK, hD0, hNw⟩ := hv
  have hx := B.exec
  have hb := B.bytes
  have hr := B.returns
  have htt : ∀ w ∈ gtbl, w.before _ s = true := fun w h => atoms_spec (ws := us_Net_allNear) B.pre w (List.mem_cons_of_mem _ h)
  have hown : s.vm.findClass R_Net = some m.cls := findClass_of_methodNamed B.named
  have hlocks := B.notSynchronized
  subst hsz
  have hD := hD0.self (sz := s.heap.size)
  generalize hAe : va_A (wd_Net_allNear cI cJ cG cZ a0 a0_near a0_tail a0_head v0_nodes v0_arcCount v0_version w0_near) s.heap.size = A at hD ⊢
  have hA : ∀ q : Nat, s.heap.size ≤ q → A q := fun q h => by rw [← hAe]; exact Or.inr h
  clear hAe hD0
  have hS : va_S A s.heap s.heap [] := va_S.rf
  have hl := lv_entry ([.ref a0, .int p1]) (n := 3) (Nat.le_of_ble_eq_true rfl)
  rw [lg_entry_eq]
  generalize (lg_sl ([.ref a0, .int p1]) ++ List.replicate (3 - (lg_sl ([.ref a0, .int p1])).length) Slot.unset).toArray = ls at hl ⊢
  have hl : lv_has ls 3 [(0, .ref a0), (1, .int p1)] := hl
  generalize hH : s.heap = H at hP ⊢
  have hS : va_S A s.heap H [] := hH ▸ hS
  generalize hLo : ([] : List Loc) = locs at hS ⊢
  clear hH hLo
  unfold m_Net_allNear at hm
  refine lv_iconst (v := 0) hx hb d_Net_allNear_0 (by decide) ?_
  refine lv_istore_n (lv' := [(2, .int 0), (0, .ref a0), (1, .int p1)]) hx hb d_Net_allNear_1 rfl hl (by decide) rfl (fun ls hl => ?_)
  refine gL_e (P := (fun (z_2 : Int32) => ∀ (x2_1 : Int32), x2_1 = z_2 → ∀ (ls : Array Slot) (H : Heap) (locs : List Loc), lv_has ls 3 [(0, .ref a0), (1, .int p1), (2, .int x2_1)] → va_P (dC, dI) vwCl (wd_Net_allNear cI cJ cG cZ a0 a0_near a0_tail a0_head v0_nodes v0_arcCount v0_version w0_near) H → va_D A (wd_Net_allNear cI cJ cG cZ a0 a0_near a0_tail a0_head v0_nodes v0_arcCount v0_version w0_near) → va_S A s.heap H locs → W p l e (headSpec us_Net_allNear rm_Net_allNear).room s m ([.ref a0, .int p1] : List Value).toArray below meth c H locs 0 0 (MQ below (va_Qi (fun (r : Int32) (_ : Unit) => ret = r ∧ bz r) (fun _ t => PoS (dC, dI) (tyL cI cJ cG cZ) (wd_Net_allNear cI cJ cG cZ a0 a0_near a0_tail a0_head v0_nodes v0_arcCount v0_version w0_near) A t) A) ([.ref a0, .int p1] : List Value).toArray s 0 0 A) (F0 m 2 ls []))) hm (fun k_2 z_2 ih_2 hm => ?_) _ rfl ls H locs (lv_sub hl [1, 2, 0] rfl) hP hD hS
  intro x2_1 hz ls H locs hl hP hD hS
  subst hz
  refine lv_iload_n hx hb d_Net_allNear_2 rfl (lv_at hl 2 rfl) ?_
  refine lv_aload_n hx hb d_Net_allNear_3 rfl (lv_at hl 0 rfl) ?_
  refine va_get (D := (dC, dI)) (ci := 1) (v := .int v0_nodes) (C := R_Net) (T := T_Net) (N := 6) hx hb htt hin_Net hown hK hP 0 rfl rfl 3 (by decide) (htt _ kt_47) (fun _ h9 => h9) rfl d_Net_allNear_4 ?_
  refine lv_icmp_ge (tgt := 42) hx hb d_Net_allNear_7 (by decide) (fun c_2 => ?_) (fun c_2 => ?_)
  · have hm := ite_t c_2 hm
    refine lv_iconst (v := 1) hx hb d_Net_allNear_42 (by decide) ?_
    cases hm
    exact W.zret (ty := .boolean) hx hb hr (bz_nar (by decide : bz 1)) (fun t ht hW => ⟨⟨_, (), rfl, ⟨rfl, (by decide : bz 1)⟩, by rw [ht]; exact hP, va_K.moved hW.alike hK, hD⟩, hS.F ht⟩) hS.2.2 d_Net_allNear_43
  · have hm := ite_f c_2 hm
    refine lv_iload_n hx hb d_Net_allNear_10 rfl (lv_at hl 1 rfl) ?_
    refine lv_iload_n hx hb d_Net_allNear_11 rfl (lv_at hl 2 rfl) ?_
    refine lv_ishr hx hb d_Net_allNear_12 ?_
    refine lv_iconst (v := 1) hx hb d_Net_allNear_13 (by decide) ?_
    refine lv_iand hx hb d_Net_allNear_14 ?_
    refine lv_if_eq (tgt := 36) hx hb d_Net_allNear_15 (by decide) (fun c_3 => ?_) (fun c_3 => ?_)
    · have hm := ite_t c_3 hm
      obtain ⟨x2_4, ex2_4⟩ : ∃ y : Int32, y = x2_1 + 1 := ⟨_, rfl⟩
      have hm := gB_at ex2_4 hm
      refine lv_iinc (v := x2_4) (lv' := [(2, .int x2_4), (0, .ref a0), (1, .int p1)]) hx hb d_Net_allNear_36 hl (k := 2) rfl (by rw [ex2_4]; rfl) (by decide) rfl (fun ls hl => ?_)
      refine lv_goto (tgt := 2) hx hb d_Net_allNear_39 (by decide) ?_
      exact ih_2 _ hm _ rfl ls H locs (lv_sub hl [1, 2, 0] rfl) hP hD hS
    · have hm := ite_f c_3 hm
      refine lv_iload_n hx hb d_Net_allNear_18 rfl (lv_at hl 1 rfl) ?_
      refine lv_aload_n hx hb d_Net_allNear_19 rfl (lv_at hl 0 rfl) ?_
      refine va_get (D := (dC, dI)) (ci := 1) (v := .ref a0_near) (C := R_Net) (T := T_Net) (N := 6) hx hb htt hin_Net hown hK hP 0 rfl rfl 0 (by decide) (htt _ kt_32) (fun _ h9 => h9) rfl d_Net_allNear_20 ?_
      refine lv_iload_n hx hb d_Net_allNear_23 rfl (lv_at hl 2 rfl) ?_
      obtain ⟨hi_5, hm⟩ := gC_e hm
      refine va_iald hx hb hK hP 1 0 rfl rfl (inb_vp hi_5) d_Net_allNear_24 ?_
      refine lv_iconst (v := (-1)) hx hb d_Net_allNear_25 (by decide) ?_
      refine lv_ixor hx hb d_Net_allNear_26 ?_
      refine lv_iand hx hb d_Net_allNear_27 ?_
      refine lv_iconst (v := 1) hx hb d_Net_allNear_28 (by decide) ?_
      refine lv_iload_n hx hb d_Net_allNear_29 rfl (lv_at hl 2 rfl) ?_
      refine lv_ishl hx hb d_Net_allNear_30 ?_
      refine lv_icmp_eq (tgt := 36) hx hb d_Net_allNear_31 (by decide) (fun c_6 => ?_) (fun c_6 => ?_)
      · have hm := ite_t c_6 hm
        obtain ⟨x2_7, ex2_7⟩ : ∃ y : Int32, y = x2_1 + 1 := ⟨_, rfl⟩
        have hm := gB_at ex2_7 hm
        refine lv_iinc (v := x2_7) (lv' := [(2, .int x2_7), (0, .ref a0), (1, .int p1)]) hx hb d_Net_allNear_36 hl (k := 2) rfl (by rw [ex2_7]; rfl) (by decide) rfl (fun ls hl => ?_)
        refine lv_goto (tgt := 2) hx hb d_Net_allNear_39 (by decide) ?_
        exact ih_2 _ hm _ rfl ls H locs (lv_sub hl [1, 2, 0] rfl) hP hD hS
      · have hm := ite_f c_6 hm
        refine lv_iconst (v := 0) hx hb d_Net_allNear_34 (by decide) ?_
        cases hm
        exact W.zret (ty := .boolean) hx hb hr (bz_nar (by decide : bz 0)) (fun t ht hW => ⟨⟨_, (), rfl, ⟨rfl, (by decide : bz 0)⟩, by rw [ht]; exact hP, va_K.moved hW.alike hK, hD⟩, hS.F ht⟩) hS.2.2 d_Net_allNear_35
theorem d_Net_partOf_0 : decode prog_4_method_11_code 0 = .ok (.iload_n 1, 1) := by decide +kernel
theorem d_Net_partOf_1 : decode prog_4_method_11_code 1 = .ok (.istore_n 3, 1) := by decide +kernel
theorem d_Net_partOf_2 : decode prog_4_method_11_code 2 = .ok (.iload_n 1, 1) := by decide +kernel
theorem d_Net_partOf_3 : decode prog_4_method_11_code 3 = .ok (.istore 4, 2) := by decide +kernel
theorem d_Net_partOf_5 : decode prog_4_method_11_code 5 = .ok (.iconst 0, 1) := by decide +kernel
theorem d_Net_partOf_6 : decode prog_4_method_11_code 6 = .ok (.istore 5, 2) := by decide +kernel
theorem d_Net_partOf_8 : decode prog_4_method_11_code 8 = .ok (.iload 5, 2) := by decide +kernel
theorem d_Net_partOf_10 : decode prog_4_method_11_code 10 = .ok (.bipush 12, 2) := by decide +kernel
theorem d_Net_partOf_12 : decode prog_4_method_11_code 12 = .ok (.if_icmp .ge 72, 3) := by decide +kernel
theorem d_Net_partOf_15 : decode prog_4_method_11_code 15 = .ok (.iload 4, 2) := by decide +kernel
theorem d_Net_partOf_17 : decode prog_4_method_11_code 17 = .ok (.ifCond .eq 67, 3) := by decide +kernel
theorem d_Net_partOf_20 : decode prog_4_method_11_code 20 = .ok (.iconst 0, 1) := by decide +kernel
theorem d_Net_partOf_21 : decode prog_4_method_11_code 21 = .ok (.istore 6, 2) := by decide +kernel
theorem d_Net_partOf_23 : decode prog_4_method_11_code 23 = .ok (.iconst 0, 1) := by decide +kernel
theorem d_Net_partOf_24 : decode prog_4_method_11_code 24 = .ok (.istore 7, 2) := by decide +kernel
theorem d_Net_partOf_26 : decode prog_4_method_11_code 26 = .ok (.iload 7, 2) := by decide +kernel
theorem d_Net_partOf_28 : decode prog_4_method_11_code 28 = .ok (.aload_n 0, 1) := by decide +kernel
theorem d_Net_partOf_29 : decode prog_4_method_11_code 29 = .ok (.getfield 21, 3) := by decide +kernel
theorem d_Net_partOf_32 : decode prog_4_method_11_code 32 = .ok (.if_icmp .ge 31, 3) := by decide +kernel
theorem d_Net_partOf_35 : decode prog_4_method_11_code 35 = .ok (.iload 4, 2) := by decide +kernel
theorem d_Net_partOf_37 : decode prog_4_method_11_code 37 = .ok (.iload 7, 2) := by decide +kernel
theorem d_Net_partOf_39 : decode prog_4_method_11_code 39 = .ok (.ishr, 1) := by decide +kernel
theorem d_Net_partOf_40 : decode prog_4_method_11_code 40 = .ok (.iconst 1, 1) := by decide +kernel
theorem d_Net_partOf_41 : decode prog_4_method_11_code 41 = .ok (.iand, 1) := by decide +kernel
theorem d_Net_partOf_42 : decode prog_4_method_11_code 42 = .ok (.ifCond .eq 15, 3) := by decide +kernel
theorem d_Net_partOf_45 : decode prog_4_method_11_code 45 = .ok (.iload 6, 2) := by decide +kernel
theorem d_Net_partOf_47 : decode prog_4_method_11_code 47 = .ok (.aload_n 0, 1) := by decide +kernel
theorem d_Net_partOf_48 : decode prog_4_method_11_code 48 = .ok (.getfield 9, 3) := by decide +kernel
theorem d_Net_partOf_51 : decode prog_4_method_11_code 51 = .ok (.iload 7, 2) := by decide +kernel
theorem d_Net_partOf_53 : decode prog_4_method_11_code 53 = .ok (.iaload, 1) := by decide +kernel
theorem d_Net_partOf_54 : decode prog_4_method_11_code 54 = .ok (.ior, 1) := by decide +kernel
theorem d_Net_partOf_55 : decode prog_4_method_11_code 55 = .ok (.istore 6, 2) := by decide +kernel
theorem d_Net_partOf_57 : decode prog_4_method_11_code 57 = .ok (.iinc 7 1, 3) := by decide +kernel
theorem d_Net_partOf_60 : decode prog_4_method_11_code 60 = .ok (.goto (-34), 3) := by decide +kernel
theorem d_Net_partOf_63 : decode prog_4_method_11_code 63 = .ok (.iload 6, 2) := by decide +kernel
theorem d_Net_partOf_65 : decode prog_4_method_11_code 65 = .ok (.iload_n 2, 1) := by decide +kernel
theorem d_Net_partOf_66 : decode prog_4_method_11_code 66 = .ok (.iand, 1) := by decide +kernel
theorem d_Net_partOf_67 : decode prog_4_method_11_code 67 = .ok (.iload_n 3, 1) := by decide +kernel
theorem d_Net_partOf_68 : decode prog_4_method_11_code 68 = .ok (.iconst (-1), 1) := by decide +kernel
theorem d_Net_partOf_69 : decode prog_4_method_11_code 69 = .ok (.ixor, 1) := by decide +kernel
theorem d_Net_partOf_70 : decode prog_4_method_11_code 70 = .ok (.iand, 1) := by decide +kernel
theorem d_Net_partOf_71 : decode prog_4_method_11_code 71 = .ok (.istore 4, 2) := by decide +kernel
theorem d_Net_partOf_73 : decode prog_4_method_11_code 73 = .ok (.iload_n 3, 1) := by decide +kernel
theorem d_Net_partOf_74 : decode prog_4_method_11_code 74 = .ok (.iload 4, 2) := by decide +kernel
theorem d_Net_partOf_76 : decode prog_4_method_11_code 76 = .ok (.ior, 1) := by decide +kernel
theorem d_Net_partOf_77 : decode prog_4_method_11_code 77 = .ok (.istore_n 3, 1) := by decide +kernel
theorem d_Net_partOf_78 : decode prog_4_method_11_code 78 = .ok (.iinc 5 1, 3) := by decide +kernel
theorem d_Net_partOf_81 : decode prog_4_method_11_code 81 = .ok (.goto (-73), 3) := by decide +kernel
theorem d_Net_partOf_84 : decode prog_4_method_11_code 84 = .ok (.iload_n 3, 1) := by decide +kernel
theorem d_Net_partOf_85 : decode prog_4_method_11_code 85 = .ok (.ireturn, 1) := by decide +kernel
abbrev wd_Net_partOf (cI cJ cG cZ : ClassId) (a0 a0_near a0_tail a0_head : Nat) (v0_nodes : Int32) (v0_arcCount : Int32) (v0_version : Int32) (w0_near : Nat → Int32) : va_W := [(a0, .inr (1, [.ref a0_near, .ref a0_tail, .ref a0_head, .int v0_nodes, .int v0_arcCount, .int v0_version])), (a0_near, .inl (cI, 12, .inl w0_near))]
abbrev us_Net_partOf : List Cond := .code y_Net_partOf prog_4_method_11_code 8 (some .int) :: gtbl
abbrev rm_Net_partOf : Room := { frames := 0, cells := 0, slots := 0, locals := 0 }
def m_Net_partOf (F : Nat) (v0_nodes : Int32) (v0_arcCount : Int32) (v0_version : Int32) (w0_near : Nat → Int32) (p1 : Int32) (p2 : Int32) : Option (Int32) :=
  gL (fun (k_8 : (Int32 × Int32 × Int32) → Option (Int32)) (z_8 : Int32 × Int32 × Int32) => match z_8 with
  | (x3_1, x4_2, x5_3) =>
  if (12 : Int32) ≤ x5_3 then (
    some x3_1
  ) else (
    if x4_2 = 0 then (
      some x3_1
    ) else (
      gL (fun (k_26 : (Int32 × Int32) → Option (Int32)) (z_26 : Int32 × Int32) => match z_26 with
      | (x6_6, x7_7) =>
      if v0_nodes ≤ x7_7 then (
        gB ((x6_6 &&& p2) &&& (x3_1 ^^^ (-1))) (fun x4_9 =>
        gB (x3_1 ||| x4_9) (fun x3_10 =>
        gB (x5_3 + 1) (fun x5_11 =>
        k_8 (x3_10, x4_9, x5_11))))
      ) else (
        if ((x4_2 >>> (x7_7 &&& 31)) &&& 1) = 0 then (
          gB (x7_7 + 1) (fun x7_13 =>
          k_26 (x6_6, x7_13))
        ) else (
          gC (inb x7_7 12) (
          gB (x6_6 ||| (w0_near x7_7.toNatClampNeg)) (fun x6_15 =>
          gB (x7_7 + 1) (fun x7_16 =>
          k_26 (x6_15, x7_16))))
        )
      )
      ) F (0, 0)
    )
  )
  ) F (p1, p1, 0)
set_option maxHeartbeats 4000000 in
set_option maxRecDepth 100000 in
theorem c_Net_partOf (l : Launch) (dC : Nat → ClassId) (dI : Nat → Nat → Nat) (cI cJ cG cZ : ClassId) (a0 a0_near a0_tail a0_head : Nat) (sz : Nat) (F : Nat) (v0_nodes : Int32) (v0_arcCount : Int32) (v0_version : Int32) (w0_near : Nat → Int32) (p1 : Int32) (p2 : Int32) (ret : Int32) (hm : m_Net_partOf F v0_nodes v0_arcCount v0_version w0_near p1 p2 = some ret) : Met l y_Net_partOf us_Net_partOf rm_Net_partOf (PcS (dC, dI) (tyL cI cJ cG cZ) [.ref a0, .int p1, .int p2] sz (wd_Net_partOf cI cJ cG cZ a0 a0_near a0_tail a0_head v0_nodes v0_arcCount v0_version w0_near)) (va_Qi (fun (r : Int32) (_ : Unit) => ret = r) (fun _ t => PoS (dC, dI) (tyL cI cJ cG cZ) (wd_Net_partOf cI cJ cG cZ a0 a0_near a0_tail a0_head v0_nodes v0_arcCount v0_version w0_near) (va_A (wd_Net_partOf cI cJ cG cZ a0 a0_near a0_tail a0_head v0_nodes v0_arcCount v0_version w0_near) sz) t) (va_A (wd_Net_partOf cI cJ cG cZ a0 a0_near a0_tail a0_head v0_nodes v0_arcCount v0_version w0_near) sz)) 0 0 (va_A (wd_Net_partOf cI cJ cG cZ a0 a0_near a0_tail a0_head v0_nodes v0_arcCount v0_version w0_near) sz) := by
  refine Met.ofW (cc := prog_4_method_11_code) (maxL := 8) (ret := (some .int)) (by decide) rfl ?_
  intro p e s m args below meth c s₁ B hml hv
  obtain ⟨rfl, hsz, hP, hK, hD0, hNw⟩ := hv
  have hx := B.exec
  have hb := B.bytes
  have hr := B.returns
  have htt : ∀ w ∈ gtbl, w.before _ s = true := fun w h => atoms_spec (ws := us_Net_partOf) B.pre w (List.mem_cons_of_mem _ h)
  have hown : s.vm.findClass R_Net = some m.cls := findClass_of_methodNamed B.named
  have hlocks := B.notSynchronized
  subst hsz
  have hD := hD0.self (sz := s.heap.size)
  generalize hAe : va_A (wd_Net_partOf cI cJ cG cZ a0 a0_near a0_tail a0_head v0_nodes v0_arcCount v0_version w0_near) s.heap.size = A at hD ⊢
  have hA : ∀ q : Nat, s.heap.size ≤ q → A q := fun q h => by rw [← hAe]; exact Or.inr h
  clear hAe hD0
  have hS : va_S A s.heap s.heap [] := va_S.rf
  have hl := lv_entry ([.ref a0, .int p1, .int p2]) (n := 8) (Nat.le_of_ble_eq_true rfl)
  rw [lg_entry_eq]
  generalize (lg_sl ([.ref a0, .int p1, .int p2]) ++ List.replicate (8 - (lg_sl ([.ref a0, .int p1, .int p2])).length) Slot.unset).toArray = ls at hl ⊢
  have hl : lv_has ls 8 [(0, .ref a0), (1, .int p1), (2, .int p2)] := hl
  generalize hH : s.heap = H at hP ⊢
  have hS : va_S A s.heap H [] := hH ▸ hS
  generalize hLo : ([] : List Loc) = locs at hS ⊢
  clear hH hLo
  unfold m_Net_partOf at hm
  refine lv_iload_n hx hb d_Net_partOf_0 rfl (lv_at hl 1 rfl) ?_
  refine lv_istore_n (lv' := [(3, .int p1), (0, .ref a0), (1, .int p1), (2, .int p2)]) hx hb d_Net_partOf_1 rfl hl (by decide) rfl (fun ls hl => ?_)
  refine lv_iload_n hx hb d_Net_partOf_2 rfl (lv_at hl 2 rfl) ?_
  refine lv_istore (lv' := [(4, .int p1), (3, .int p1), (0, .ref a0), (1, .int p1), (2, .int p2)]) hx hb d_Net_partOf_3 hl (by decide) rfl (fun ls hl => ?_)
  refine lv_iconst (v := 0) hx hb d_Net_partOf_5 (by decide) ?_
  refine lv_istore (lv' := [(5, .int 0), (4, .int p1), (3, .int p1), (0, .ref a0), (1, .int p1), (2, .int p2)]) hx hb d_Net_partOf_6 hl (by decide) rfl (fun ls hl => ?_)
  refine gL_e (P := (fun (z_8 : Int32 × Int32 × Int32) => ∀ (x3_1 : Int32), ∀ (x4_2 : Int32), ∀ (x5_3 : Int32), z_8 = (x3_1, x4_2, x5_3) → ∀ (ls : Array Slot) (H : Heap) (locs : List Loc), lv_has ls 8 [(0, .ref a0), (2, .int p2), (3, .int x3_1), (4, .int x4_2), (5, .int x5_3)] → va_P (dC, dI) vwCl (wd_Net_partOf cI cJ cG cZ a0 a0_near a0_tail a0_head v0_nodes v0_arcCount v0_version w0_near) H → va_D A (wd_Net_partOf cI cJ cG cZ a0 a0_near a0_tail a0_head v0_nodes v0_arcCount v0_version w0_near) → va_S A s.heap H locs → W p l e (headSpec us_Net_partOf rm_Net_partOf).room s m ([.ref a0, .int p1, .int p2] : List Value).toArray below meth c H locs 0 0 (MQ below (va_Qi (fun (r : Int32) (_ : Unit) => ret = r) (fun _ t => PoS (dC, dI) (tyL cI cJ cG cZ) (wd_Net_partOf cI cJ cG cZ a0 a0_near a0_tail a0_head v0_nodes v0_arcCount v0_version w0_near) A t) A) ([.ref a0, .int p1, .int p2] : List Value).toArray s 0 0 A) (F0 m 8 ls []))) hm (fun k_8 z_8 ih_8 hm => ?_) _ _ _ rfl ls H locs (lv_sub hl [3, 5, 2, 1, 0] rfl) hP hD hS
  intro x3_1 x4_2 x5_3 hz ls H locs hl hP hD hS
  subst hz
  dsimp only at hm
  refine lv_iload hx hb d_Net_partOf_8 (lv_at hl 4 rfl) ?_
  refine lv_bipush (v := 12) hx hb d_Net_partOf_10 (by decide) ?_
  refine lv_icmp_ge (tgt := 84) hx hb d_Net_partOf_12 (by decide) (fun c_4 => ?_) (fun c_4 => ?_)
  · have hm := ite_t c_4 hm
    refine lv_iload_n hx hb d_Net_partOf_84 rfl (lv_at hl 2 rfl) ?_
    cases hm
    exact W.iret hx hb hr (fun t ht hW => ⟨⟨_, (), rfl, rfl, by rw [ht]; exact hP, va_K.moved hW.alike hK, hD⟩, hS.F ht⟩) hS.2.2 d_Net_partOf_85
  · have hm := ite_f c_4 hm
    refine lv_iload hx hb d_Net_partOf_15 (lv_at hl 3 rfl) ?_
    refine lv_if_eq (tgt := 84) hx hb d_Net_partOf_17 (by decide) (fun c_5 => ?_) (fun c_5 => ?_)
    · have hm := ite_t c_5 hm
      refine lv_iload_n hx hb d_Net_partOf_84 rfl (lv_at hl 2 rfl) ?_
      cases hm
      exact W.iret hx hb hr (fun t ht hW => ⟨⟨_, (), rfl, rfl, by rw [ht]; exact hP, va_K.moved hW.alike hK, hD⟩, hS.F ht⟩) hS.2.2 d_Net_partOf_85
    · have hm := ite_f c_5 hm
      refine lv_iconst (v := 0) hx hb d_Net_partOf_20 (by decide) ?_
      refine lv_istore (lv' := [(6, .int 0), (0, .ref a0), (2, .int p2), (3, .int x3_1), (4, .int x4_2), (5, .int x5_3)]) hx hb d_Net_partOf_21 hl (by decide) rfl (fun ls hl => ?_)
      refine lv_iconst (v := 0) hx hb d_Net_partOf_23 (by decide) ?_
      refine lv_istore (lv' := [(7, .int 0), (6, .int 0), (0, .ref a0), (2, .int p2), (3, .int x3_1), (4, .int x4_2), (5, .int x5_3)]) hx hb d_Net_partOf_24 hl (by decide) rfl (fun ls hl => ?_)
      refine gL_e (P := (fun (z_26 : Int32 × Int32) => ∀ (x6_6 : Int32), ∀ (x7_7 : Int32), z_26 = (x6_6, x7_7) → ∀ (ls : Array Slot) (H : Heap) (locs : List Loc), lv_has ls 8 [(0, .ref a0), (2, .int p2), (3, .int x3_1), (4, .int x4_2), (5, .int x5_3), (6, .int x6_6), (7, .int x7_7)] → va_P (dC, dI) vwCl (wd_Net_partOf cI cJ cG cZ a0 a0_near a0_tail a0_head v0_nodes v0_arcCount v0_version w0_near) H → va_D A (wd_Net_partOf cI cJ cG cZ a0 a0_near a0_tail a0_head v0_nodes v0_arcCount v0_version w0_near) → va_S A s.heap H locs → W p l e (headSpec us_Net_partOf rm_Net_partOf).room s m ([.ref a0, .int p1, .int p2] : List Value).toArray below meth c H locs 0 0 (MQ below (va_Qi (fun (r : Int32) (_ : Unit) => ret = r) (fun _ t => PoS (dC, dI) (tyL cI cJ cG cZ) (wd_Net_partOf cI cJ cG cZ a0 a0_near a0_tail a0_head v0_nodes v0_arcCount v0_version w0_near) A t) A) ([.ref a0, .int p1, .int p2] : List Value).toArray s 0 0 A) (F0 m 26 ls []))) hm (fun k_26 z_26 ih_26 hm => ?_) _ _ rfl ls H locs (lv_sub hl [2, 3, 4, 5, 6, 1, 0] rfl) hP hD hS
      intro x6_6 x7_7 hz ls H locs hl hP hD hS
      subst hz
      dsimp only at hm
      refine lv_iload hx hb d_Net_partOf_26 (lv_at hl 6 rfl) ?_
      refine lv_aload_n hx hb d_Net_partOf_28 rfl (lv_at hl 0 rfl) ?_
      refine va_get (D := (dC, dI)) (ci := 1) (v := .int v0_nodes) (C := R_Net) (T := T_Net) (N := 6) hx hb htt hin_Net hown hK hP 0 rfl rfl 3 (by decide) (htt _ kt_47) (fun _ h9 => h9) rfl d_Net_partOf_29 ?_
      refine lv_icmp_ge (tgt := 63) hx hb d_Net_partOf_32 (by decide) (fun c_8 => ?_) (fun c_8 => ?_)
      · have hm := ite_t c_8 hm
        refine lv_iload hx hb d_Net_partOf_63 (lv_at hl 5 rfl) ?_
        refine lv_iload_n hx hb d_Net_partOf_65 rfl (lv_at hl 1 rfl) ?_
        refine lv_iand hx hb d_Net_partOf_66 ?_
        refine lv_iload_n hx hb d_Net_partOf_67 rfl (lv_at hl 2 rfl) ?_
        refine lv_iconst (v := (-1)) hx hb d_Net_partOf_68 (by decide) ?_
        refine lv_ixor hx hb d_Net_partOf_69 ?_
        refine lv_iand hx hb d_Net_partOf_70 ?_
        refine lv_topi (fun x4_9 ex4_9 => ?_)
        have hm := gB_at ex4_9 hm
        refine lv_istore (lv' := [(4, .int x4_9), (0, .ref a0), (2, .int p2), (3, .int x3_1), (5, .int x5_3), (6, .int x6_6), (7, .int x7_7)]) hx hb d_Net_partOf_71 hl (by decide) rfl (fun ls hl => ?_)
        refine lv_iload_n hx hb d_Net_partOf_73 rfl (lv_at hl 3 rfl) ?_
        refine lv_iload hx hb d_Net_partOf_74 (lv_at hl 0 rfl) ?_
        refine lv_ior hx hb d_Net_partOf_76 ?_
        refine lv_topi (fun x3_10 ex3_10 => ?_)
        have hm := gB_at ex3_10 hm
        refine lv_istore_n (lv' := [(3, .int x3_10), (4, .int x4_9), (0, .ref a0), (2, .int p2), (5, .int x5_3), (6, .int x6_6), (7, .int x7_7)]) hx hb d_Net_partOf_77 rfl hl (by decide) rfl (fun ls hl => ?_)
        obtain ⟨x5_11, ex5_11⟩ : ∃ y : Int32, y = x5_3 + 1 := ⟨_, rfl⟩
        have hm := gB_at ex5_11 hm
        refine lv_iinc (v := x5_11) (lv' := [(5, .int x5_11), (3, .int x3_10), (4, .int x4_9), (0, .ref a0), (2, .int p2), (6, .int x6_6), (7, .int x7_7)]) hx hb d_Net_partOf_78 hl (k := 4) rfl (by rw [ex5_11]; rfl) (by decide) rfl (fun ls hl => ?_)
        refine lv_goto (tgt := 8) hx hb d_Net_partOf_81 (by decide) ?_
        exact ih_8 _ hm _ _ _ rfl ls H locs (lv_sub hl [3, 4, 1, 2, 0] rfl) hP hD hS
      · have hm := ite_f c_8 hm
        refine lv_iload hx hb d_Net_partOf_35 (lv_at hl 3 rfl) ?_
        refine lv_iload hx hb d_Net_partOf_37 (lv_at hl 6 rfl) ?_
        refine lv_ishr hx hb d_Net_partOf_39 ?_
        refine lv_iconst (v := 1) hx hb d_Net_partOf_40 (by decide) ?_
        refine lv_iand hx hb d_Net_partOf_41 ?_
        refine lv_if_eq (tgt := 57) hx hb d_Net_partOf_42 (by decide) (fun c_12 => ?_) (fun c_12 => ?_)
        · have hm := ite_t c_12 hm
          obtain ⟨x7_13, ex7_13⟩ : ∃ y : Int32, y = x7_7 + 1 := ⟨_, rfl⟩
          have hm := gB_at ex7_13 hm
          refine lv_iinc (v := x7_13) (lv' := [(7, .int x7_13), (0, .ref a0), (2, .int p2), (3, .int x3_1), (4, .int x4_2), (5, .int x5_3), (6, .int x6_6)]) hx hb d_Net_partOf_57 hl (k := 6) rfl (by rw [ex7_13]; rfl) (by decide) rfl (fun ls hl => ?_)
          refine lv_goto (tgt := 26) hx hb d_Net_partOf_60 (by decide) ?_
          exact ih_26 _ hm _ _ rfl ls H locs (lv_sub hl [1, 2, 3, 4, 5, 6, 0] rfl) hP hD hS
        · have hm := ite_f c_12 hm
          refine lv_iload hx hb d_Net_partOf_45 (lv_at hl 5 rfl) ?_
          refine lv_aload_n hx hb d_Net_partOf_47 rfl (lv_at hl 0 rfl) ?_
          refine va_get (D := (dC, dI)) (ci := 1) (v := .ref a0_near) (C := R_Net) (T := T_Net) (N := 6) hx hb htt hin_Net hown hK hP 0 rfl rfl 0 (by decide) (htt _ kt_32) (fun _ h9 => h9) rfl d_Net_partOf_48 ?_
          refine lv_iload hx hb d_Net_partOf_51 (lv_at hl 6 rfl) ?_
          obtain ⟨hi_14, hm⟩ := gC_e hm
          refine va_iald hx hb hK hP 1 0 rfl rfl (inb_vp hi_14) d_Net_partOf_53 ?_
          refine lv_ior hx hb d_Net_partOf_54 ?_
          refine lv_topi (fun x6_15 ex6_15 => ?_)
          have hm := gB_at ex6_15 hm
          refine lv_istore (lv' := [(6, .int x6_15), (0, .ref a0), (2, .int p2), (3, .int x3_1), (4, .int x4_2), (5, .int x5_3), (7, .int x7_7)]) hx hb d_Net_partOf_55 hl (by decide) rfl (fun ls hl => ?_)
          obtain ⟨x7_16, ex7_16⟩ : ∃ y : Int32, y = x7_7 + 1 := ⟨_, rfl⟩
          have hm := gB_at ex7_16 hm
          refine lv_iinc (v := x7_16) (lv' := [(7, .int x7_16), (6, .int x6_15), (0, .ref a0), (2, .int p2), (3, .int x3_1), (4, .int x4_2), (5, .int x5_3)]) hx hb d_Net_partOf_57 hl (k := 6) rfl (by rw [ex7_16]; rfl) (by decide) rfl (fun ls hl => ?_)
          refine lv_goto (tgt := 26) hx hb d_Net_partOf_60 (by decide) ?_
          exact ih_26 _ hm _ _ rfl ls H locs (lv_sub hl [2, 3, 4, 5, 6, 1, 0] rfl) hP hD hS
