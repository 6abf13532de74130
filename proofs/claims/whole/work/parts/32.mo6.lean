theorem d_Mo_taken_0 : decode prog_10_method_36_code 0 = .ok (.aload_n 0, 1) := by decide +kernel
theorem d_Mo_taken_1 : decode prog_10_method_36_code 1 = .ok (.iconst 0, 1) := by decide +kernel
theorem d_Mo_taken_2 : decode prog_10_method_36_code 2 = .ok (.putfield 79, 3) := by decide +kernel
theorem d_Mo_taken_5 : decode prog_10_method_36_code 5 = .ok (.iload_n 1, 1) := by decide +kernel
theorem d_Mo_taken_6 : decode prog_10_method_36_code 6 = .ok (.ifCond .lt 20, 3) := by decide +kernel
theorem d_Mo_taken_9 : decode prog_10_method_36_code 9 = .ok (.iload_n 1, 1) := by decide +kernel
theorem d_Mo_taken_10 : decode prog_10_method_36_code 10 = .ok (.aload_n 0, 1) := by decide +kernel
theorem d_Mo_taken_11 : decode prog_10_method_36_code 11 = .ok (.getfield 92, 3) := by decide +kernel
theorem d_Mo_taken_14 : decode prog_10_method_36_code 14 = .ok (.if_icmp .ge 12, 3) := by decide +kernel
theorem d_Mo_taken_17 : decode prog_10_method_36_code 17 = .ok (.aload_n 0, 1) := by decide +kernel
theorem d_Mo_taken_18 : decode prog_10_method_36_code 18 = .ok (.getfield 34, 3) := by decide +kernel
theorem d_Mo_taken_21 : decode prog_10_method_36_code 21 = .ok (.iload_n 1, 1) := by decide +kernel
theorem d_Mo_taken_22 : decode prog_10_method_36_code 22 = .ok (.iaload, 1) := by decide +kernel
theorem d_Mo_taken_23 : decode prog_10_method_36_code 23 = .ok (.goto 4, 3) := by decide +kernel
theorem d_Mo_taken_26 : decode prog_10_method_36_code 26 = .ok (.iconst (-1), 1) := by decide +kernel
theorem d_Mo_taken_27 : decode prog_10_method_36_code 27 = .ok (.ireturn, 1) := by decide +kernel
abbrev wd_Mo_taken (cI cJ cG cZ : ClassId) (a0 a0_from a0_to a0_near a0_lists a0_colours a0_shades a0_tints a0_attempt a0_taken a0_isApart a0_ways a0_next a0_splits a0_powers a0_row a0_many a0_can a0_could a0_arcRow a0_order a0_isOut : Nat) (v0_thrown : Int32) (v0_nodes : Int32) (v0_arcs : Int32) (v0_takenMany : Int32) (v0_leftBits : Int32) (v0_hasPolynomial : Int32) (v0_hasLists : Int32) (w0_taken : Nat → Int32) : va_W := [(a0, .inr (8, [.int v0_thrown, .int v0_nodes, .int v0_arcs, .ref a0_from, .ref a0_to, .ref a0_near, .ref a0_lists, .ref a0_colours, .ref a0_shades, .ref a0_tints, .ref a0_attempt, .int v0_takenMany, .ref a0_taken, .int v0_leftBits, .ref a0_isApart, .ref a0_ways, .ref a0_next, .ref a0_splits, .ref a0_powers, .ref a0_row, .ref a0_many, .int v0_hasPolynomial, .int v0_hasLists, .ref a0_can, .ref a0_could, .ref a0_arcRow, .ref a0_order, .ref a0_isOut])), (a0_taken, .inl (cI, 12, .inl w0_taken))]
abbrev us_Mo_taken : List Cond := .code y_Mo_taken prog_10_method_36_code 2 (some .int) :: gtbl
abbrev rm_Mo_taken : Room := { frames := 0, cells := 0, slots := 0, locals := 0 }
def m_Mo_taken (F : Nat) (v0_thrown : Int32) (v0_nodes : Int32) (v0_arcs : Int32) (v0_takenMany : Int32) (v0_leftBits : Int32) (v0_hasPolynomial : Int32) (v0_hasLists : Int32) (w0_taken : Nat → Int32) (p1 : Int32) : Option (Int32 × Int32) :=
  if p1 < 0 then (
    some ((-1), 0)
  ) else (
    if v0_takenMany ≤ p1 then (
      some ((-1), 0)
    ) else (
      gC (inb p1 12) (
      some (w0_taken p1.toNatClampNeg, 0))
    )
  )
set_option maxHeartbeats 4000000 in
set_option maxRecDepth 100000 in
theorem c_Mo_taken (l : Launch) (dC : Nat → ClassId) (dI : Nat → Nat → Nat) (cI cJ cG cZ : ClassId) (a0 a0_from a0_to a0_near a0_lists a0_colours a0_shades a0_tints a0_attempt a0_taken a0_isApart a0_ways a0_next a0_splits a0_powers a0_row a0_many a0_can a0_could a0_arcRow a0_order a0_isOut : Nat) (sz : Nat) (F : Nat) (v0_thrown : Int32) (v0_nodes : Int32) (v0_arcs : Int32) (v0_takenMany : Int32) (v0_leftBits : Int32) (v0_hasPolynomial : Int32) (v0_hasLists : Int32) (w0_taken : Nat → Int32) (p1 : Int32) (ret : Int32) (o_v0_thrown : Int32) (hm : m_Mo_taken F v0_thrown v0_nodes v0_arcs v0_takenMany v0_leftBits v0_hasPolynomial v0_hasLists w0_taken p1 = some (ret, o_v0_thrown)) : Met l y_Mo_taken us_Mo_taken rm_Mo_taken (PcS (dC, dI) (tyL cI cJ cG cZ) [.ref a0, .int p1] sz (wd_Mo_taken cI cJ cG cZ a0 a0_from a0_to a0_near a0_lists a0_colours a0_shades a0_tints a0_attempt a0_taken a0_isApart a0_ways a0_next a0_splits a0_powers a0_row a0_many a0_can a0_could a0_arcRow a0_order a0_isOut v0_thrown v0_nodes v0_arcs v0_takenMany v0_leftBits v0_hasPolynomial v0_hasLists w0_taken)) (va_Qi (fun (r : Int32) (_ : Unit) => ret = r) (fun _ t => PoS (dC, dI) (tyL cI cJ cG cZ) (wd_Mo_taken cI cJ cG cZ a0 a0_from a0_to a0_near a0_lists a0_colours a0_shades a0_tints a0_attempt a0_taken a0_isApart a0_ways a0_next a0_splits a0_powers a0_row a0_many a0_can a0_could a0_arcRow a0_order a0_isOut o_v0_thrown v0_nodes v0_arcs v0_takenMany v0_leftBits v0_hasPolynomial v0_hasLists w0_taken) (va_A (wd_Mo_taken cI cJ cG cZ a0 a0_from a0_to a0_near a0_lists a0_colours a0_shades a0_tints a0_attempt a0_taken a0_isApart a0_ways a0_next a0_splits a0_powers a0_row a0_many a0_can a0_could a0_arcRow a0_order a0_isOut v0_thrown v0_nodes v0_arcs v0_takenMany v0_leftBits v0_hasPolynomial v0_hasLists w0_taken) sz) t) (va_A (wd_Mo_taken cI cJ cG cZ a0 a0_from a0_to a0_near a0_lists a0_colours a0_shades a0_tints a0_attempt a0_taken a0_isApart a0_ways a0_next a0_splits a0_powers a0_row a0_many a0_can a0_could a0_arcRow a0_order a0_isOut v0_thrown v0_nodes v0_arcs v0_takenMany v0_leftBits v0_hasPolynomial v0_hasLists w0_taken) sz)) 0 0 (va_A (wd_Mo_taken cI cJ cG cZ a0 a0_from a0_to a0_near a0_lists a0_colours a0_shades a0_tints a0_attempt a0_taken a0_isApart a0_ways a0_next a0_splits a0_powers a0_row a0_many a0_can a0_could a0_arcRow a0_order a0_isOut v0_thrown v0_nodes v0_arcs v0_takenMany v0_leftBits v0_hasPolynomial v0_hasLists w0_taken) sz) := by
  refine Met.ofW (cc := prog_10_method_36_code) (maxL := 2) (ret := (some .int)) (by decide) rfl ?_
  intro p e s m args below meth c s₁ B hml hv
  obtain ⟨rfl, hsz, hP, hK, hD0, hNw⟩ := hv
  have hx := B.exec
  have hb := B.bytes
  have hr := B.returns
  have htt : ∀ w ∈ gtbl, w.before _ s = true := fun w h => atoms_spec (ws := us_Mo_taken) B.pre w (List.mem_cons_of_mem _ h)
  have hown : s.vm.findClass R_Mo = some m.cls := findClass_of_methodNamed B.named
  have hlocks := B.notSynchronized
  subst hsz
  have hD := hD0.self (sz := s.heap.size)
  generalize hAe : va_A (wd_Mo_taken cI cJ cG cZ a0 a0_from a0_to a0_near a0_lists a0_colours a0_shades a0_tints a0_attempt a0_taken a0_isApart a0_ways a0_next a0_splits a0_powers a0_row a0_many a0_can a0_could a0_arcRow a0_order a0_isOut v0_thrown v0_nodes v0_arcs v0_takenMany v0_leftBits v0_hasPolynomial v0_hasLists w0_taken) s.heap.size = A at hD ⊢
  have hA : ∀ q : Nat, s.heap.size ≤ q → A q := fun q h => by rw [← hAe]; exact Or.inr h
  clear hAe hD0
  have hS : va_S A s.heap s.heap [] := va_S.rf
  have hl := lv_entry ([.ref a0, .int p1]) (n := 2) (Nat.le_of_ble_eq_true rfl)
  rw [lg_entry_eq]
  generalize (lg_sl ([.ref a0, .int p1]) ++ List.replicate (2 - (lg_sl ([.ref a0, .int p1])).length) Slot.unset).toArray = ls at hl ⊢
  have hl : lv_has ls 2 [(0, .ref a0), (1, .int p1)] := hl
  generalize hH : s.heap = H at hP ⊢
  have hS : va_S A s.heap H [] := hH ▸ hS
  generalize hLo : ([] : List Loc) = locs at hS ⊢
  clear hH hLo
  unfold m_Mo_taken at hm
  refine lv_aload_n hx hb d_Mo_taken_0 rfl (lv_at hl 0 rfl) ?_
  refine lv_iconst (v := 0) hx hb d_Mo_taken_1 (by decide) ?_
  refine va_put (D := (dC, dI)) (ci := 8) (v := .int 0) (ty := .int) (C := R_Mo) (T := T_Mo) (N := 28) hx hb htt hin_Mo ty_Mo tyok_Mo nm_Mo hown hK hP hD hS 0 rfl rfl 0 (by decide) (htt _ kt_769) (fun _ h9 => h9) rfl (by decide +kernel) rfl rfl (Nat.le_of_ble_eq_true rfl) d_Mo_taken_2 (fun H locs hP hD hS => ?_)
  have hP : va_P (dC, dI) vwCl (wd_Mo_taken cI cJ cG cZ a0 a0_from a0_to a0_near a0_lists a0_colours a0_shades a0_tints a0_attempt a0_taken a0_isApart a0_ways a0_next a0_splits a0_powers a0_row a0_many a0_can a0_could a0_arcRow a0_order a0_isOut 0 v0_nodes v0_arcs v0_takenMany v0_leftBits v0_hasPolynomial v0_hasLists w0_taken) H := hP
  have hD : va_D A (wd_Mo_taken cI cJ cG cZ a0 a0_from a0_to a0_near a0_lists a0_colours a0_shades a0_tints a0_attempt a0_taken a0_isApart a0_ways a0_next a0_splits a0_powers a0_row a0_many a0_can a0_could a0_arcRow a0_order a0_isOut 0 v0_nodes v0_arcs v0_takenMany v0_leftBits v0_hasPolynomial v0_hasLists w0_taken) := hD
  refine lv_iload_n hx hb d_Mo_taken_5 rfl (lv_at hl 1 rfl) ?_
  refine lv_if_lt (tgt := 26) hx hb d_Mo_taken_6 (by decide) (fun c_1 => ?_) (fun c_1 => ?_)
  · have hm := ite_t c_1 hm
    refine lv_iconst (v := (-1)) hx hb d_Mo_taken_26 (by decide) ?_
    cases hm
    exact W.iret hx hb hr (fun t ht hW => ⟨⟨_, (), rfl, rfl, by rw [ht]; exact hP, va_K.moved hW.alike hK, hD⟩, hS.F ht⟩) hS.2.2 d_Mo_taken_27
  · have hm := ite_f c_1 hm
    refine lv_iload_n hx hb d_Mo_taken_9 rfl (lv_at hl 1 rfl) ?_
    refine lv_aload_n hx hb d_Mo_taken_10 rfl (lv_at hl 0 rfl) ?_
    refine va_get (D := (dC, dI)) (ci := 8) (v := .int v0_takenMany) (C := R_Mo) (T := T_Mo) (N := 28) hx hb htt hin_Mo hown hK hP 0 rfl rfl 11 (by decide) (htt _ kt_780) (fun _ h9 => h9) rfl d_Mo_taken_11 ?_
    refine lv_icmp_ge (tgt := 26) hx hb d_Mo_taken_14 (by decide) (fun c_2 => ?_) (fun c_2 => ?_)
    · have hm := ite_t c_2 hm
      refine lv_iconst (v := (-1)) hx hb d_Mo_taken_26 (by decide) ?_
      cases hm
      exact W.iret hx hb hr (fun t ht hW => ⟨⟨_, (), rfl, rfl, by rw [ht]; exact hP, va_K.moved hW.alike hK, hD⟩, hS.F ht⟩) hS.2.2 d_Mo_taken_27
    · have hm := ite_f c_2 hm
      refine lv_aload_n hx hb d_Mo_taken_17 rfl (lv_at hl 0 rfl) ?_
      refine va_get (D := (dC, dI)) (ci := 8) (v := .ref a0_taken) (C := R_Mo) (T := T_Mo) (N := 28) hx hb htt hin_Mo hown hK hP 0 rfl rfl 12 (by decide) (htt _ kt_781) (fun _ h9 => h9) rfl d_Mo_taken_18 ?_
      refine lv_iload_n hx hb d_Mo_taken_21 rfl (lv_at hl 1 rfl) ?_
      obtain ⟨hi_3, hm⟩ := gC_e hm
      refine va_iald hx hb hK hP 1 0 rfl rfl (inb_vp hi_3) d_Mo_taken_22 ?_
      refine lv_goto (tgt := 27) hx hb d_Mo_taken_23 (by decide) ?_
      cases hm
      exact W.iret hx hb hr (fun t ht hW => ⟨⟨_, (), rfl, rfl, by rw [ht]; exact hP, va_K.moved hW.alike hK, hD⟩, hS.F ht⟩) hS.2.2 d_Mo_taken_27
theorem d_Mo_left_0 : decode prog_10_method_37_code 0 = .ok (.aload_n 0, 1) := by decide +kernel
theorem d_Mo_left_1 : decode prog_10_method_37_code 1 = .ok (.iconst 0, 1) := by decide +kernel
theorem d_Mo_left_2 : decode prog_10_method_37_code 2 = .ok (.putfield 79, 3) := by decide +kernel
theorem d_Mo_left_5 : decode prog_10_method_37_code 5 = .ok (.aload_n 0, 1) := by decide +kernel
theorem d_Mo_left_6 : decode prog_10_method_37_code 6 = .ok (.getfield 95, 3) := by decide +kernel
theorem d_Mo_left_9 : decode prog_10_method_37_code 9 = .ok (.ireturn, 1) := by decide +kernel
abbrev wd_Mo_left (cI cJ cG cZ : ClassId) (a0 a0_from a0_to a0_near a0_lists a0_colours a0_shades a0_tints a0_attempt a0_taken a0_isApart a0_ways a0_next a0_splits a0_powers a0_row a0_many a0_can a0_could a0_arcRow a0_order a0_isOut : Nat) (v0_thrown : Int32) (v0_nodes : Int32) (v0_arcs : Int32) (v0_takenMany : Int32) (v0_leftBits : Int32) (v0_hasPolynomial : Int32) (v0_hasLists : Int32) : va_W := [(a0, .inr (8, [.int v0_thrown, .int v0_nodes, .int v0_arcs, .ref a0_from, .ref a0_to, .ref a0_near, .ref a0_lists, .ref a0_colours, .ref a0_shades, .ref a0_tints, .ref a0_attempt, .int v0_takenMany, .ref a0_taken, .int v0_leftBits, .ref a0_isApart, .ref a0_ways, .ref a0_next, .ref a0_splits, .ref a0_powers, .ref a0_row, .ref a0_many, .int v0_hasPolynomial, .int v0_hasLists, .ref a0_can, .ref a0_could, .ref a0_arcRow, .ref a0_order, .ref a0_isOut]))]
abbrev us_Mo_left : List Cond := .code y_Mo_left prog_10_method_37_code 1 (some .int) :: gtbl
abbrev rm_Mo_left : Room := { frames := 0, cells := 0, slots := 0, locals := 0 }
def m_Mo_left (F : Nat) (v0_thrown : Int32) (v0_nodes : Int32) (v0_arcs : Int32) (v0_takenMany : Int32) (v0_leftBits : Int32) (v0_hasPolynomial : Int32) (v0_hasLists : Int32) : Option (Int32 × Int32) :=
  some (v0_leftBits, 0)
set_option maxHeartbeats 4000000 in
set_option maxRecDepth 100000 in
theorem c_Mo_left (l : Launch) (dC : Nat → ClassId) (dI : Nat → Nat → Nat) (cI cJ cG cZ : ClassId) (a0 a0_from a0_to a0_near a0_lists a0_colours a0_shades a0_tints a0_attempt a0_taken a0_isApart a0_ways a0_next a0_splits a0_powers a0_row a0_many a0_can a0_could a0_arcRow a0_order a0_isOut : Nat) (sz : Nat) (F : Nat) (v0_thrown : Int32) (v0_nodes : Int32) (v0_arcs : Int32) (v0_takenMany : Int32) (v0_leftBits : Int32) (v0_hasPolynomial : Int32) (v0_hasLists : Int32) (ret : Int32) (o_v0_thrown : Int32) (hm : m_Mo_left F v0_thrown v0_nodes v0_arcs v0_takenMany v0_leftBits v0_hasPolynomial v0_hasLists = some (ret, o_v0_thrown)) : Met l y_Mo_left us_Mo_left rm_Mo_left (PcS (dC, dI) (tyL cI cJ cG cZ) [.ref a0] sz (wd_Mo_left cI cJ cG cZ a0 a0_from a0_to a0_near a0_lists a0_colours a0_shades a0_tints a0_attempt a0_taken a0_isApart a0_ways a0_next a0_splits a0_powers a0_row a0_many a0_can a0_could a0_arcRow a0_order a0_isOut v0_thrown v0_nodes v0_arcs v0_takenMany v0_leftBits v0_hasPolynomial v0_hasLists)) (va_Qi (fun (r : Int32) (_ : Unit) => ret = r) (fun _ t => PoS (dC, dI) (tyL cI cJ cG cZ) (wd_Mo_left cI cJ cG cZ a0 a0_from a0_to a0_near a0_lists a0_colours a0_shades a0_tints a0_attempt a0_taken a0_isApart a0_ways a0_next a0_splits a0_powers a0_row a0_many a0_can a0_could a0_arcRow a0_order a0_isOut o_v0_thrown v0_nodes v0_arcs v0_takenMany v0_leftBits v0_hasPolynomial v0_hasLists) (va_A (wd_Mo_left cI cJ cG cZ a0 a0_from a0_to a0_near a0_lists a0_colours a0_shades a0_tints a0_attempt a0_taken a0_isApart a0_ways a0_next a0_splits a0_powers a0_row a0_many a0_can a0_could a0_arcRow a0_order a0_isOut v0_thrown v0_nodes v0_arcs v0_takenMany v0_leftBits v0_hasPolynomial v0_hasLists) sz) t) (va_A (wd_Mo_left cI cJ cG cZ a0 a0_from a0_to a0_near a0_lists a0_colours a0_shades a0_tints a0_attempt a0_taken a0_isApart a0_ways a0_next a0_splits a0_powers a0_row a0_many a0_can a0_could a0_arcRow a0_order a0_isOut v0_thrown v0_nodes v0_arcs v0_takenMany v0_leftBits v0_hasPolynomial v0_hasLists) sz)) 0 0 (va_A (wd_Mo_left cI cJ cG cZ a0 a0_from a0_to a0_near a0_lists a0_colours a0_shades a0_tints a0_attempt a0_taken a0_isApart a0_ways a0_next a0_splits a0_powers a0_row a0_many a0_can a0_could a0_arcRow a0_order a0_isOut v0_thrown v0_nodes v0_arcs v0_takenMany v0_leftBits v0_hasPolynomial v0_hasLists) sz) := by
  refine Met.ofW (cc := prog_10_method_37_code) (maxL := 1) (ret := (some .int)) (by decide) rfl ?_
  intro p e s m args below meth c s₁ B hml hv
  obtain ⟨rfl, hsz, hP, hK, hD0, hNw⟩ := hv
  have hx := B.exec
  have hb := B.bytes
  have hr := B.returns
  have htt : ∀ w ∈ gtbl, w.before _ s = true := fun w h => atoms_spec (ws := us_Mo_left) B.pre w (List.mem_cons_of_mem _ h)
  have hown : s.vm.findClass R_Mo = some m.cls := findClass_of_methodNamed B.named
  have hlocks := B.notSynchronized
  subst hsz
  have hD := hD0.self (sz := s.heap.size)
  generalize hAe : va_A (wd_Mo_left cI cJ cG cZ a0 a0_from a0_to a0_near a0_lists a0_colours a0_shades a0_tints a0_attempt a0_taken a0_isApart a0_ways a0_next a0_splits a0_powers a0_row a0_many a0_can a0_could a0_arcRow a0_order a0_isOut v0_thrown v0_nodes v0_arcs v0_takenMany v0_leftBits v0_hasPolynomial v0_hasLists) s.heap.size = A at hD ⊢
  have hA : ∀ q : Nat, s.heap.size ≤ q → A q := fun q h => by rw [← hAe]; exact Or.inr h
  clear hAe hD0
  have hS : va_S A s.heap s.heap [] := va_S.rf
  have hl := lv_entry ([.ref a0]) (n := 1) (Nat.le_of_ble_eq_true rfl)
  rw [lg_entry_eq]
  generalize (lg_sl ([.ref a0]) ++ List.replicate (1 - (lg_sl ([.ref a0])).length) Slot.unset).toArray = ls at hl ⊢
  have hl : lv_has ls 1 [(0, .ref a0)] := hl
  generalize hH : s.heap = H at hP ⊢
  have hS : va_S A s.heap H [] := hH ▸ hS
  generalize hLo : ([] : List Loc) = locs at hS ⊢
  clear hH hLo
  unfold m_Mo_left at hm
  refine lv_aload_n hx hb d_Mo_left_0 rfl (lv_at hl 0 rfl) ?_
  refine lv_iconst (v := 0) hx hb d_Mo_left_1 (by decide) ?_
  refine va_put (D := (dC, dI)) (ci := 8) (v := .int 0) (ty := .int) (C := R_Mo) (T := T_Mo) (N := 28) hx hb htt hin_Mo ty_Mo tyok_Mo nm_Mo hown hK hP hD hS 0 rfl rfl 0 (by decide) (htt _ kt_769) (fun _ h9 => h9) rfl (by decide +kernel) rfl rfl (Nat.le_of_ble_eq_true rfl) d_Mo_left_2 (fun H locs hP hD hS => ?_)
  have hP : va_P (dC, dI) vwCl (wd_Mo_left cI cJ cG cZ a0 a0_from a0_to a0_near a0_lists a0_colours a0_shades a0_tints a0_attempt a0_taken a0_isApart a0_ways a0_next a0_splits a0_powers a0_row a0_many a0_can a0_could a0_arcRow a0_order a0_isOut 0 v0_nodes v0_arcs v0_takenMany v0_leftBits v0_hasPolynomial v0_hasLists) H := hP
  have hD : va_D A (wd_Mo_left cI cJ cG cZ a0 a0_from a0_to a0_near a0_lists a0_colours a0_shades a0_tints a0_attempt a0_taken a0_isApart a0_ways a0_next a0_splits a0_powers a0_row a0_many a0_can a0_could a0_arcRow a0_order a0_isOut 0 v0_nodes v0_arcs v0_takenMany v0_leftBits v0_hasPolynomial v0_hasLists) := hD
  refine lv_aload_n hx hb d_Mo_left_5 rfl (lv_at hl 0 rfl) ?_
  refine va_get (D := (dC, dI)) (ci := 8) (v := .int v0_leftBits) (C := R_Mo) (T := T_Mo) (N := 28) hx hb htt hin_Mo hown hK hP 0 rfl rfl 13 (by decide) (htt _ kt_782) (fun _ h9 => h9) rfl d_Mo_left_6 ?_
  cases hm
  exact W.iret hx hb hr (fun t ht hW => ⟨⟨_, (), rfl, rfl, by rw [ht]; exact hP, va_K.moved hW.alike hK, hD⟩, hS.F ht⟩) hS.2.2 d_Mo_left_9
theorem d_Mo_tintNode_0 : decode prog_10_method_38_code 0 = .ok (.iconst 0, 1) := by decide +kernel
theorem d_Mo_tintNode_1 : decode prog_10_method_38_code 1 = .ok (.istore_n 2, 1) := by decide +kernel
theorem d_Mo_tintNode_2 : decode prog_10_method_38_code 2 = .ok (.iconst 0, 1) := by decide +kernel
theorem d_Mo_tintNode_3 : decode prog_10_method_38_code 3 = .ok (.istore_n 3, 1) := by decide +kernel
theorem d_Mo_tintNode_4 : decode prog_10_method_38_code 4 = .ok (.iload_n 3, 1) := by decide +kernel
theorem d_Mo_tintNode_5 : decode prog_10_method_38_code 5 = .ok (.aload_n 0, 1) := by decide +kernel
theorem d_Mo_tintNode_6 : decode prog_10_method_38_code 6 = .ok (.getfield 86, 3) := by decide +kernel
theorem d_Mo_tintNode_9 : decode prog_10_method_38_code 9 = .ok (.if_icmp .ge 48, 3) := by decide +kernel
theorem d_Mo_tintNode_12 : decode prog_10_method_38_code 12 = .ok (.iload_n 2, 1) := by decide +kernel
theorem d_Mo_tintNode_13 : decode prog_10_method_38_code 13 = .ok (.aload_n 0, 1) := by decide +kernel
theorem d_Mo_tintNode_14 : decode prog_10_method_38_code 14 = .ok (.getfield 16, 3) := by decide +kernel
theorem d_Mo_tintNode_17 : decode prog_10_method_38_code 17 = .ok (.iload_n 1, 1) := by decide +kernel
theorem d_Mo_tintNode_18 : decode prog_10_method_38_code 18 = .ok (.iaload, 1) := by decide +kernel
theorem d_Mo_tintNode_19 : decode prog_10_method_38_code 19 = .ok (.iload_n 3, 1) := by decide +kernel
theorem d_Mo_tintNode_20 : decode prog_10_method_38_code 20 = .ok (.ishr, 1) := by decide +kernel
theorem d_Mo_tintNode_21 : decode prog_10_method_38_code 21 = .ok (.iconst 1, 1) := by decide +kernel
theorem d_Mo_tintNode_22 : decode prog_10_method_38_code 22 = .ok (.iand, 1) := by decide +kernel
theorem d_Mo_tintNode_23 : decode prog_10_method_38_code 23 = .ok (.iconst 1, 1) := by decide +kernel
theorem d_Mo_tintNode_24 : decode prog_10_method_38_code 24 = .ok (.if_icmp .ne 24, 3) := by decide +kernel
theorem d_Mo_tintNode_27 : decode prog_10_method_38_code 27 = .ok (.aload_n 0, 1) := by decide +kernel
theorem d_Mo_tintNode_28 : decode prog_10_method_38_code 28 = .ok (.getfield 28, 3) := by decide +kernel
theorem d_Mo_tintNode_31 : decode prog_10_method_38_code 31 = .ok (.iload_n 3, 1) := by decide +kernel
theorem d_Mo_tintNode_32 : decode prog_10_method_38_code 32 = .ok (.iaload, 1) := by decide +kernel
theorem d_Mo_tintNode_33 : decode prog_10_method_38_code 33 = .ok (.iconst (-1), 1) := by decide +kernel
theorem d_Mo_tintNode_34 : decode prog_10_method_38_code 34 = .ok (.if_icmp .eq 14, 3) := by decide +kernel
theorem d_Mo_tintNode_37 : decode prog_10_method_38_code 37 = .ok (.iconst 1, 1) := by decide +kernel
theorem d_Mo_tintNode_38 : decode prog_10_method_38_code 38 = .ok (.aload_n 0, 1) := by decide +kernel
theorem d_Mo_tintNode_39 : decode prog_10_method_38_code 39 = .ok (.getfield 28, 3) := by decide +kernel
theorem d_Mo_tintNode_42 : decode prog_10_method_38_code 42 = .ok (.iload_n 3, 1) := by decide +kernel
theorem d_Mo_tintNode_43 : decode prog_10_method_38_code 43 = .ok (.iaload, 1) := by decide +kernel
theorem d_Mo_tintNode_44 : decode prog_10_method_38_code 44 = .ok (.ishl, 1) := by decide +kernel
theorem d_Mo_tintNode_45 : decode prog_10_method_38_code 45 = .ok (.goto 4, 3) := by decide +kernel
theorem d_Mo_tintNode_48 : decode prog_10_method_38_code 48 = .ok (.iconst 0, 1) := by decide +kernel
theorem d_Mo_tintNode_49 : decode prog_10_method_38_code 49 = .ok (.ior, 1) := by decide +kernel
theorem d_Mo_tintNode_50 : decode prog_10_method_38_code 50 = .ok (.istore_n 2, 1) := by decide +kernel
theorem d_Mo_tintNode_51 : decode prog_10_method_38_code 51 = .ok (.iinc 3 1, 3) := by decide +kernel
theorem d_Mo_tintNode_54 : decode prog_10_method_38_code 54 = .ok (.goto (-50), 3) := by decide +kernel
theorem d_Mo_tintNode_57 : decode prog_10_method_38_code 57 = .ok (.iconst 0, 1) := by decide +kernel
theorem d_Mo_tintNode_58 : decode prog_10_method_38_code 58 = .ok (.istore_n 3, 1) := by decide +kernel
theorem d_Mo_tintNode_59 : decode prog_10_method_38_code 59 = .ok (.iload_n 2, 1) := by decide +kernel
theorem d_Mo_tintNode_60 : decode prog_10_method_38_code 60 = .ok (.iload_n 3, 1) := by decide +kernel
theorem d_Mo_tintNode_61 : decode prog_10_method_38_code 61 = .ok (.ishr, 1) := by decide +kernel
theorem d_Mo_tintNode_62 : decode prog_10_method_38_code 62 = .ok (.iconst 1, 1) := by decide +kernel
theorem d_Mo_tintNode_63 : decode prog_10_method_38_code 63 = .ok (.iand, 1) := by decide +kernel
theorem d_Mo_tintNode_64 : decode prog_10_method_38_code 64 = .ok (.iconst 1, 1) := by decide +kernel
theorem d_Mo_tintNode_65 : decode prog_10_method_38_code 65 = .ok (.if_icmp .ne 9, 3) := by decide +kernel
theorem d_Mo_tintNode_68 : decode prog_10_method_38_code 68 = .ok (.iinc 3 1, 3) := by decide +kernel
theorem d_Mo_tintNode_71 : decode prog_10_method_38_code 71 = .ok (.goto (-12), 3) := by decide +kernel
theorem d_Mo_tintNode_74 : decode prog_10_method_38_code 74 = .ok (.aload_n 0, 1) := by decide +kernel
theorem d_Mo_tintNode_75 : decode prog_10_method_38_code 75 = .ok (.getfield 28, 3) := by decide +kernel
theorem d_Mo_tintNode_78 : decode prog_10_method_38_code 78 = .ok (.iload_n 1, 1) := by decide +kernel
theorem d_Mo_tintNode_79 : decode prog_10_method_38_code 79 = .ok (.iload_n 3, 1) := by decide +kernel
theorem d_Mo_tintNode_80 : decode prog_10_method_38_code 80 = .ok (.iastore, 1) := by decide +kernel
theorem d_Mo_tintNode_81 : decode prog_10_method_38_code 81 = .ok (.return_, 1) := by decide +kernel
abbrev wd_Mo_tintNode (cI cJ cG cZ : ClassId) (a0 a0_from a0_to a0_near a0_lists a0_colours a0_shades a0_tints a0_attempt a0_taken a0_isApart a0_ways a0_next a0_splits a0_powers a0_row a0_many a0_can a0_could a0_arcRow a0_order a0_isOut : Nat) (v0_thrown : Int32) (v0_nodes : Int32) (v0_arcs : Int32) (v0_takenMany : Int32) (v0_leftBits : Int32) (v0_hasPolynomial : Int32) (v0_hasLists : Int32) (w0_near : Nat → Int32) (w0_tints : Nat → Int32) : va_W := [(a0, .inr (8, [.int v0_thrown, .int v0_nodes, .int v0_arcs, .ref a0_from, .ref a0_to, .ref a0_near, .ref a0_lists, .ref a0_colours, .ref a0_shades, .ref a0_tints, .ref a0_attempt, .int v0_takenMany, .ref a0_taken, .int v0_leftBits, .ref a0_isApart, .ref a0_ways, .ref a0_next, .ref a0_splits, .ref a0_powers, .ref a0_row, .ref a0_many, .int v0_hasPolynomial, .int v0_hasLists, .ref a0_can, .ref a0_could, .ref a0_arcRow, .ref a0_order, .ref a0_isOut])), (a0_near, .inl (cI, 12, .inl w0_near)), (a0_tints, .inl (cI, 12, .inl w0_tints))]
abbrev us_Mo_tintNode : List Cond := .code y_Mo_tintNode prog_10_method_38_code 4 none :: gtbl
abbrev rm_Mo_tintNode : Room := { frames := 0, cells := 0, slots := 0, locals := 0 }
def m_Mo_tintNode (F : Nat) (v0_thrown : Int32) (v0_nodes : Int32) (v0_arcs : Int32) (v0_takenMany : Int32) (v0_leftBits : Int32) (v0_hasPolynomial : Int32) (v0_hasLists : Int32) (w0_near : Nat → Int32) (w0_tints : Nat → Int32) (p1 : Int32) : Option ((Nat → Int32)) :=
  gL (fun (k_4 : (Int32 × Int32) → Option ((Nat → Int32))) (z_4 : Int32 × Int32) => match z_4 with
  | (x2_1, x3_2) =>
  if v0_nodes ≤ x3_2 then (
    gL (fun (k_59 : Int32 → Option ((Nat → Int32))) (x3_4 : Int32) =>
    if ((x2_1 >>> (x3_4 &&& 31)) &&& 1) = (1 : Int32) then (
      gB (x3_4 + 1) (fun x3_7 =>
      k_59 x3_7)
    ) else (
      gC (inb p1 12) (
      some (upd w0_tints p1.toNatClampNeg x3_4))
    )
    ) F 0
  ) else (
    gC (inb p1 12) (
    if (((w0_near p1.toNatClampNeg) >>> (x3_2 &&& 31)) &&& 1) = (1 : Int32) then (
      gC (inb x3_2 12) (
      if (w0_tints x3_2.toNatClampNeg) = ((-1) : Int32) then (
        gB (x2_1 ||| 0) (fun x2_14 =>
        gB (x3_2 + 1) (fun x3_15 =>
        k_4 (x2_14, x3_15)))
      ) else (
        gC (inb x3_2 12) (
        gB (x2_1 ||| ((1 : Int32) <<< ((w0_tints x3_2.toNatClampNeg) &&& 31))) (fun x2_17 =>
        gB (x3_2 + 1) (fun x3_18 =>
        k_4 (x2_17, x3_18))))
      ))
    ) else (
      gB (x2_1 ||| 0) (fun x2_10 =>
      gB (x3_2 + 1) (fun x3_11 =>
      k_4 (x2_10, x3_11)))
    ))
  )
  ) F (0, 0)
set_option maxHeartbeats 4000000 in
set_option maxRecDepth 100000 in
theorem c_Mo_tintNode (l : Launch) (dC : Nat → ClassId) (dI : Nat → Nat → Nat) (cI cJ cG cZ : ClassId) (a0 a0_from a0_to a0_near a0_lists a0_colours a0_shades a0_tints a0_attempt a0_taken a0_isApart a0_ways a0_next a0_splits a0_powers a0_row a0_many a0_can a0_could a0_arcRow a0_order a0_isOut : Nat) (sz : Nat) (F : Nat) (v0_thrown : Int32) (v0_nodes : Int32) (v0_arcs : Int32) (v0_takenMany : Int32) (v0_leftBits : Int32) (v0_hasPolynomial : Int32) (v0_hasLists : Int32) (w0_near : Nat → Int32) (w0_tints : Nat → Int32) (p1 : Int32) (o_w0_tints : Nat → Int32) (hm : m_Mo_tintNode F v0_thrown v0_nodes v0_arcs v0_takenMany v0_leftBits v0_hasPolynomial v0_hasLists w0_near w0_tints p1 = some o_w0_tints) : Met l y_Mo_tintNode us_Mo_tintNode rm_Mo_tintNode (PcS (dC, dI) (tyL cI cJ cG cZ) [.ref a0, .int p1] sz (wd_Mo_tintNode cI cJ cG cZ a0 a0_from a0_to a0_near a0_lists a0_colours a0_shades a0_tints a0_attempt a0_taken a0_isApart a0_ways a0_next a0_splits a0_powers a0_row a0_many a0_can a0_could a0_arcRow a0_order a0_isOut v0_thrown v0_nodes v0_arcs v0_takenMany v0_leftBits v0_hasPolynomial v0_hasLists w0_near w0_tints)) (va_Qv (fun (_ : Unit) => True) (fun _ t => PoS (dC, dI) (tyL cI cJ cG cZ) (wd_Mo_tintNode cI cJ cG cZ a0 a0_from a0_to a0_near a0_lists a0_colours a0_shades a0_tints a0_attempt a0_taken a0_isApart a0_ways a0_next a0_splits a0_powers a0_row a0_many a0_can a0_could a0_arcRow a0_order a0_isOut v0_thrown v0_nodes v0_arcs v0_takenMany v0_leftBits v0_hasPolynomial v0_hasLists w0_near o_w0_tints) (va_A (wd_Mo_tintNode cI cJ cG cZ a0 a0_from a0_to a0_near a0_lists a0_colours a0_shades a0_tints a0_attempt a0_taken a0_isApart a0_ways a0_next a0_splits a0_powers a0_row a0_many a0_can a0_could a0_arcRow a0_order a0_isOut v0_thrown v0_nodes v0_arcs v0_takenMany v0_leftBits v0_hasPolynomial v0_hasLists w0_near w0_tints) sz) t) (va_A (wd_Mo_tintNode cI cJ cG cZ a0 a0_from a0_to a0_near a0_lists a0_colours a0_shades a0_tints a0_attempt a0_taken a0_isApart a0_ways a0_next a0_splits a0_powers a0_row a0_many a0_can a0_could a0_arcRow a0_order a0_isOut v0_thrown v0_nodes v0_arcs v0_takenMany v0_leftBits v0_hasPolynomial v0_hasLists w0_near w0_tints) sz)) 0 0 (va_A (wd_Mo_tintNode cI cJ cG cZ a0 a0_from a0_to a0_near a0_lists a0_colours a0_shades a0_tints a0_attempt a0_taken a0_isApart a0_ways a0_next a0_splits a0_powers a0_row a0_many a0_can a0_could a0_arcRow a0_order a0_isOut v0_thrown v0_nodes v0_arcs v0_takenMany v0_leftBits v0_hasPolynomial v0_hasLists w0_near w0_tints) sz) := by
  refine Met.ofW (cc := prog_10_method_38_code) (maxL := 4) (ret := none) (by decide) rfl ?_
  intro p e s m args below meth c s₁ B hml hv
  obtain ⟨rfl, hsz, hP, hK, hD0, hNw⟩ := hv
  have hx := B.exec
  have hb := B.bytes
  have hr := B.returns
  have htt : ∀ w ∈ gtbl, w.before _ s = true := fun w h => atoms_spec (ws := us_Mo_tintNode) B.pre w (List.mem_cons_of_mem _ h)
  have hown : s.vm.findClass R_Mo = some m.cls := findClass_of_methodNamed B.named
  have hlocks := B.notSynchronized
  subst hsz
  have hD := hD0.self (sz := s.heap.size)
  generalize hAe : va_A (wd_Mo_tintNode cI cJ cG cZ a0 a0_from a0_to a0_near a0_lists a0_colours a0_shades a0_tints a0_attempt a0_taken a0_isApart a0_ways a0_next a0_splits a0_powers a0_row a0_many a0_can a0_could a0_arcRow a0_order a0_isOut v0_thrown v0_nodes v0_arcs v0_takenMany v0_leftBits v0_hasPolynomial v0_hasLists w0_near w0_tints) s.heap.size = A at hD ⊢
  have hA : ∀ q : Nat, s.heap.size ≤ q → A q := fun q h => by rw [← hAe]; exact Or.inr h
  clear hAe hD0
  have hS : va_S A s.heap s.heap [] := va_S.rf
  have hl := lv_entry ([.ref a0, .int p1]) (n := 4) (Nat.le_of_ble_eq_true rfl)
  rw [lg_entry_eq]
  generalize (lg_sl ([.ref a0, .int p1]) ++ List.replicate (4 - (lg_sl ([.ref a0, .int p1])).length) Slot.unset).toArray = ls at hl ⊢
  have hl : lv_has ls 4 [(0, .ref a0), (1, .int p1)] := hl
  generalize hH : s.heap = H at hP ⊢
  have hS : va_S A s.heap H [] := hH ▸ hS
  generalize hLo : ([] : List Loc) = locs at hS ⊢
  clear hH hLo
  unfold m_Mo_tintNode at hm
  refine lv_iconst (v := 0) hx hb d_Mo_tintNode_0 (by decide) ?_
  refine lv_istore_n (lv' := [(2, .int 0), (0, .ref a0), (1, .int p1)]) hx hb d_Mo_tintNode_1 rfl hl (by decide) rfl (fun ls hl => ?_)
  refine lv_iconst (v := 0) hx hb d_Mo_tintNode_2 (by decide) ?_
  refine lv_istore_n (lv' := [(3, .int 0), (2, .int 0), (0, .ref a0), (1, .int p1)]) hx hb d_Mo_tintNode_3 rfl hl (by decide) rfl (fun ls hl => ?_)
  refine gL_e (P := (fun (z_4 : Int32 × Int32) => ∀ (x2_1 : Int32), ∀ (x3_2 : Int32), z_4 = (x2_1, x3_2) → ∀ (ls : Array Slot) (H : Heap) (locs : List Loc), lv_has ls 4 [(0, .ref a0), (1, .int p1), (2, .int x2_1), (3, .int x3_2)] → va_P (dC, dI) vwCl (wd_Mo_tintNode cI cJ cG cZ a0 a0_from a0_to a0_near a0_lists a0_colours a0_shades a0_tints a0_attempt a0_taken a0_isApart a0_ways a0_next a0_splits a0_powers a0_row a0_many a0_can a0_could a0_arcRow a0_order a0_isOut v0_thrown v0_nodes v0_arcs v0_takenMany v0_leftBits v0_hasPolynomial v0_hasLists w0_near w0_tints) H → va_D A (wd_Mo_tintNode cI cJ cG cZ a0 a0_from a0_to a0_near a0_lists a0_colours a0_shades a0_tints a0_attempt a0_taken a0_isApart a0_ways a0_next a0_splits a0_powers a0_row a0_many a0_can a0_could a0_arcRow a0_order a0_isOut v0_thrown v0_nodes v0_arcs v0_takenMany v0_leftBits v0_hasPolynomial v0_hasLists w0_near w0_tints) → va_S A s.heap H locs → W p l e (headSpec us_Mo_tintNode rm_Mo_tintNode).room s m ([.ref a0, .int p1] : List Value).toArray below meth c H locs 0 0 (MQ below (va_Qv (fun (_ : Unit) => True) (fun _ t => PoS (dC, dI) (tyL cI cJ cG cZ) (wd_Mo_tintNode cI cJ cG cZ a0 a0_from a0_to a0_near a0_lists a0_colours a0_shades a0_tints a0_attempt a0_taken a0_isApart a0_ways a0_next a0_splits a0_powers a0_row a0_many a0_can a0_could a0_arcRow a0_order a0_isOut v0_thrown v0_nodes v0_arcs v0_takenMany v0_leftBits v0_hasPolynomial v0_hasLists w0_near o_w0_tints) A t) A) ([.ref a0, .int p1] : List Value).toArray s 0 0 A) (F0 m 4 ls []))) hm (fun k_4 z_4 ih_4 hm => ?_) _ _ rfl ls H locs (lv_sub hl [2, 3, 1, 0] rfl) hP hD hS
  intro x2_1 x3_2 hz ls H locs hl hP hD hS
  subst hz
  dsimp only at hm
  refine lv_iload_n hx hb d_Mo_tintNode_4 rfl (lv_at hl 3 rfl) ?_
  refine lv_aload_n hx hb d_Mo_tintNode_5 rfl (lv_at hl 0 rfl) ?_
  refine va_get (D := (dC, dI)) (ci := 8) (v := .int v0_nodes) (C := R_Mo) (T := T_Mo) (N := 28) hx hb htt hin_Mo hown hK hP 0 rfl rfl 1 (by decide) (htt _ kt_770) (fun _ h9 => h9) rfl d_Mo_tintNode_6 ?_
  refine lv_icmp_ge (tgt := 57) hx hb d_Mo_tintNode_9 (by decide) (fun c_3 => ?_) (fun c_3 => ?_)
  · have hm := ite_t c_3 hm
    refine lv_iconst (v := 0) hx hb d_Mo_tintNode_57 (by decide) ?_
    refine lv_istore_n (lv' := [(3, .int 0), (0, .ref a0), (1, .int p1), (2, .int x2_1)]) hx hb d_Mo_tintNode_58 rfl hl (by decide) rfl (fun ls hl => ?_)
    refine gL_e (P := (fun (z_59 : Int32) => ∀ (x3_4 : Int32), x3_4 = z_59 → ∀ (ls : Array Slot) (H : Heap) (locs : List Loc), lv_has ls 4 [(0, .ref a0), (1, .int p1), (2, .int x2_1), (3, .int x3_4)] → va_P (dC, dI) vwCl (wd_Mo_tintNode cI cJ cG cZ a0 a0_from a0_to a0_near a0_lists a0_colours a0_shades a0_tints a0_attempt a0_taken a0_isApart a0_ways a0_next a0_splits a0_powers a0_row a0_many a0_can a0_could a0_arcRow a0_order a0_isOut v0_thrown v0_nodes v0_arcs v0_takenMany v0_leftBits v0_hasPolynomial v0_hasLists w0_near w0_tints) H → va_D A (wd_Mo_tintNode cI cJ cG cZ a0 a0_from a0_to a0_near a0_lists a0_colours a0_shades a0_tints a0_attempt a0_taken a0_isApart a0_ways a0_next a0_splits a0_powers a0_row a0_many a0_can a0_could a0_arcRow a0_order a0_isOut v0_thrown v0_nodes v0_arcs v0_takenMany v0_leftBits v0_hasPolynomial v0_hasLists w0_near w0_tints) → va_S A s.heap H locs → W p l e (headSpec us_Mo_tintNode rm_Mo_tintNode).room s m ([.ref a0, .int p1] : List Value).toArray below meth c H locs 0 0 (MQ below (va_Qv (fun (_ : Unit) => True) (fun _ t => PoS (dC, dI) (tyL cI cJ cG cZ) (wd_Mo_tintNode cI cJ cG cZ a0 a0_from a0_to a0_near a0_lists a0_colours a0_shades a0_tints a0_attempt a0_taken a0_isApart a0_ways a0_next a0_splits a0_powers a0_row a0_many a0_can a0_could a0_arcRow a0_order a0_isOut v0_thrown v0_nodes v0_arcs v0_takenMany v0_leftBits v0_hasPolynomial v0_hasLists w0_near o_w0_tints) A t) A) ([.ref a0, .int p1] : List Value).toArray s 0 0 A) (F0 m 59 ls []))) hm (fun k_59 z_59 ih_59 hm => ?_) _ rfl ls H locs (lv_sub hl [1, 2, 3, 0] rfl) hP hD hS
    intro x3_4 hz ls H locs hl hP hD hS
    subst hz
    refine lv_iload_n hx hb d_Mo_tintNode_59 rfl (lv_at hl 2 rfl) ?_
    refine lv_iload_n hx hb d_Mo_tintNode_60 rfl (lv_at hl 3 rfl) ?_
    refine lv_ishr hx hb d_Mo_tintNode_61 ?_
    refine lv_iconst (v := 1) hx hb d_Mo_tintNode_62 (by decide) ?_
    refine lv_iand hx hb d_Mo_tintNode_63 ?_
    refine lv_iconst (v := 1) hx hb d_Mo_tintNode_64 (by decide) ?_
    refine lv_icmp_ne (tgt := 74) hx hb d_Mo_tintNode_65 (by decide) (fun c_5 => ?_) (fun c_5 => ?_)
    · have hm := ite_f c_5 hm
      refine lv_aload_n hx hb d_Mo_tintNode_74 rfl (lv_at hl 0 rfl) ?_
      refine va_get (D := (dC, dI)) (ci := 8) (v := .ref a0_tints) (C := R_Mo) (T := T_Mo) (N := 28) hx hb htt hin_Mo hown hK hP 0 rfl rfl 9 (by decide) (htt _ kt_778) (fun _ h9 => h9) rfl d_Mo_tintNode_75 ?_
      refine lv_iload_n hx hb d_Mo_tintNode_78 rfl (lv_at hl 1 rfl) ?_
      refine lv_iload_n hx hb d_Mo_tintNode_79 rfl (lv_at hl 3 rfl) ?_
      obtain ⟨hi_6, hm⟩ := gC_e hm
      refine va_iast hx hb hK hP hD hS 2 0 rfl rfl (inb_vp hi_6) d_Mo_tintNode_80 (fun H locs hP hD hS => ?_)
      have hP : va_P (dC, dI) vwCl (wd_Mo_tintNode cI cJ cG cZ a0 a0_from a0_to a0_near a0_lists a0_colours a0_shades a0_tints a0_attempt a0_taken a0_isApart a0_ways a0_next a0_splits a0_powers a0_row a0_many a0_can a0_could a0_arcRow a0_order a0_isOut v0_thrown v0_nodes v0_arcs v0_takenMany v0_leftBits v0_hasPolynomial v0_hasLists w0_near (upd w0_tints p1.toNatClampNeg x3_4)) H := hP
      have hD : va_D A (wd_Mo_tintNode cI cJ cG cZ a0 a0_from a0_to a0_near a0_lists a0_colours a0_shades a0_tints a0_attempt a0_taken a0_isApart a0_ways a0_next a0_splits a0_powers a0_row a0_many a0_can a0_could a0_arcRow a0_order a0_isOut v0_thrown v0_nodes v0_arcs v0_takenMany v0_leftBits v0_hasPolynomial v0_hasLists w0_near (upd w0_tints p1.toNatClampNeg x3_4)) := hD
      cases hm
      exact W.vret hx hb hr (fun t ht hW => ⟨⟨(), rfl, trivial, by rw [ht]; exact hP, va_K.moved hW.alike hK, hD⟩, hS.F ht⟩) hS.2.2 d_Mo_tintNode_81
    · have hm := ite_t c_5 hm
      obtain ⟨x3_7, ex3_7⟩ : ∃ y : Int32, y = x3_4 + 1 := ⟨_, rfl⟩
      have hm := gB_at ex3_7 hm
      refine lv_iinc (v := x3_7) (lv' := [(3, .int x3_7), (0, .ref a0), (1, .int p1), (2, .int x2_1)]) hx hb d_Mo_tintNode_68 hl (k := 3) rfl (by rw [ex3_7]; rfl) (by decide) rfl (fun ls hl => ?_)
      refine lv_goto (tgt := 59) hx hb d_Mo_tintNode_71 (by decide) ?_
      exact ih_59 _ hm _ rfl ls H locs (lv_sub hl [1, 2, 3, 0] rfl) hP hD hS
  · have hm := ite_f c_3 hm
    refine lv_iload_n hx hb d_Mo_tintNode_12 rfl (lv_at hl 2 rfl) ?_
    refine lv_aload_n hx hb d_Mo_tintNode_13 rfl (lv_at hl 0 rfl) ?_
    refine va_get (D := (dC, dI)) (ci := 8) (v := .ref a0_near) (C := R_Mo) (T := T_Mo) (N := 28) hx hb htt hin_Mo hown hK hP 0 rfl rfl 5 (by decide) (htt _ kt_774) (fun _ h9 => h9) rfl d_Mo_tintNode_14 ?_
    refine lv_iload_n hx hb d_Mo_tintNode_17 rfl (lv_at hl 1 rfl) ?_
    obtain ⟨hi_8, hm⟩ := gC_e hm
    refine va_iald hx hb hK hP 1 0 rfl rfl (inb_vp hi_8) d_Mo_tintNode_18 ?_
    refine lv_iload_n hx hb d_Mo_tintNode_19 rfl (lv_at hl 3 rfl) ?_
    refine lv_ishr hx hb d_Mo_tintNode_20 ?_
    refine lv_iconst (v := 1) hx hb d_Mo_tintNode_21 (by decide) ?_
    refine lv_iand hx hb d_Mo_tintNode_22 ?_
    refine lv_iconst (v := 1) hx hb d_Mo_tintNode_23 (by decide) ?_
    refine lv_icmp_ne (tgt := 48) hx hb d_Mo_tintNode_24 (by decide) (fun c_9 => ?_) (fun c_9 => ?_)
    · have hm := ite_f c_9 hm
      refine lv_iconst (v := 0) hx hb d_Mo_tintNode_48 (by decide) ?_
      refine lv_ior hx hb d_Mo_tintNode_49 ?_
      refine lv_topi (fun x2_10 ex2_10 => ?_)
      have hm := gB_at ex2_10 hm
      refine lv_istore_n (lv' := [(2, .int x2_10), (0, .ref a0), (1, .int p1), (3, .int x3_2)]) hx hb d_Mo_tintNode_50 rfl hl (by decide) rfl (fun ls hl => ?_)
      obtain ⟨x3_11, ex3_11⟩ : ∃ y : Int32, y = x3_2 + 1 := ⟨_, rfl⟩
      have hm := gB_at ex3_11 hm
      refine lv_iinc (v := x3_11) (lv' := [(3, .int x3_11), (2, .int x2_10), (0, .ref a0), (1, .int p1)]) hx hb d_Mo_tintNode_51 hl (k := 3) rfl (by rw [ex3_11]; rfl) (by decide) rfl (fun ls hl => ?_)
      refine lv_goto (tgt := 4) hx hb d_Mo_tintNode_54 (by decide) ?_
      exact ih_4 _ hm _ _ rfl ls H locs (lv_sub hl [2, 3, 1, 0] rfl) hP hD hS
    · have hm := ite_t c_9 hm
      refine lv_aload_n hx hb d_Mo_tintNode_27 rfl (lv_at hl 0 rfl) ?_
      refine va_get (D := (dC, dI)) (ci := 8) (v := .ref a0_tints) (C := R_Mo) (T := T_Mo) (N := 28) hx hb htt hin_Mo hown hK hP 0 rfl rfl 9 (by decide) (htt _ kt_778) (fun _ h9 => h9) rfl d_Mo_tintNode_28 ?_
      refine lv_iload_n hx hb d_Mo_tintNode_31 rfl (lv_at hl 3 rfl) ?_
      obtain ⟨hi_12, hm⟩ := gC_e hm
      refine va_iald hx hb hK hP 2 0 rfl rfl (inb_vp hi_12) d_Mo_tintNode_32 ?_
      refine lv_iconst (v := (-1)) hx hb d_Mo_tintNode_33 (by decide) ?_
      refine lv_icmp_eq (tgt := 48) hx hb d_Mo_tintNode_34 (by decide) (fun c_13 => ?_) (fun c_13 => ?_)
      · have hm := ite_t c_13 hm
        refine lv_iconst (v := 0) hx hb d_Mo_tintNode_48 (by decide) ?_
        refine lv_ior hx hb d_Mo_tintNode_49 ?_
        refine lv_topi (fun x2_14 ex2_14 => ?_)
        have hm := gB_at ex2_14 hm
        refine lv_istore_n (lv' := [(2, .int x2_14), (0, .ref a0), (1, .int p1), (3, .int x3_2)]) hx hb d_Mo_tintNode_50 rfl hl (by decide) rfl (fun ls hl => ?_)
        obtain ⟨x3_15, ex3_15⟩ : ∃ y : Int32, y = x3_2 + 1 := ⟨_, rfl⟩
        have hm := gB_at ex3_15 hm
        refine lv_iinc (v := x3_15) (lv' := [(3, .int x3_15), (2, .int x2_14), (0, .ref a0), (1, .int p1)]) hx hb d_Mo_tintNode_51 hl (k := 3) rfl (by rw [ex3_15]; rfl) (by decide) rfl (fun ls hl => ?_)
        refine lv_goto (tgt := 4) hx hb d_Mo_tintNode_54 (by decide) ?_
        exact ih_4 _ hm _ _ rfl ls H locs (lv_sub hl [2, 3, 1, 0] rfl) hP hD hS
      · have hm := ite_f c_13 hm
        refine lv_iconst (v := 1) hx hb d_Mo_tintNode_37 (by decide) ?_
        refine lv_aload_n hx hb d_Mo_tintNode_38 rfl (lv_at hl 0 rfl) ?_
        refine va_get (D := (dC, dI)) (ci := 8) (v := .ref a0_tints) (C := R_Mo) (T := T_Mo) (N := 28) hx hb htt hin_Mo hown hK hP 0 rfl rfl 9 (by decide) (htt _ kt_778) (fun _ h9 => h9) rfl d_Mo_tintNode_39 ?_
        refine lv_iload_n hx hb d_Mo_tintNode_42 rfl (lv_at hl 3 rfl) ?_
        obtain ⟨hi_16, hm⟩ := gC_e hm
        refine va_iald hx hb hK hP 2 0 rfl rfl (inb_vp hi_16) d_Mo_tintNode_43 ?_
        refine lv_ishl hx hb d_Mo_tintNode_44 ?_
        refine lv_goto (tgt := 49) hx hb d_Mo_tintNode_45 (by decide) ?_
        refine lv_ior hx hb d_Mo_tintNode_49 ?_
        refine lv_topi (fun x2_17 ex2_17 => ?_)
        have hm := gB_at ex2_17 hm
        refine lv_istore_n (lv' := [(2, .int x2_17), (0, .ref a0), (1, .int p1), (3, .int x3_2)]) hx hb d_Mo_tintNode_50 rfl hl (by decide) rfl (fun ls hl => ?_)
        obtain ⟨x3_18, ex3_18⟩ : ∃ y : Int32, y = x3_2 + 1 := ⟨_, rfl⟩
        have hm := gB_at ex3_18 hm
        refine lv_iinc (v := x3_18) (lv' := [(3, .int x3_18), (2, .int x2_17), (0, .ref a0), (1, .int p1)]) hx hb d_Mo_tintNode_51 hl (k := 3) rfl (by rw [ex3_18]; rfl) (by decide) rfl (fun ls hl => ?_)
        refine lv_goto (tgt := 4) hx hb d_Mo_tintNode_54 (by decide) ?_
        exact ih_4 _ hm _ _ rfl ls H locs (lv_sub hl [2, 3, 1, 0] rfl) hP hD hS
theorem d_Mo_different_0 : decode prog_10_method_39_code 0 = .ok (.iconst 0, 1) := by decide +kernel
theorem d_Mo_different_1 : decode prog_10_method_39_code 1 = .ok (.istore_n 2, 1) := by decide +kernel
theorem d_Mo_different_2 : decode prog_10_method_39_code 2 = .ok (.iconst 0, 1) := by decide +kernel
theorem d_Mo_different_3 : decode prog_10_method_39_code 3 = .ok (.istore_n 3, 1) := by decide +kernel
theorem d_Mo_different_4 : decode prog_10_method_39_code 4 = .ok (.iload_n 3, 1) := by decide +kernel
theorem d_Mo_different_5 : decode prog_10_method_39_code 5 = .ok (.aload_n 0, 1) := by decide +kernel
theorem d_Mo_different_6 : decode prog_10_method_39_code 6 = .ok (.getfield 86, 3) := by decide +kernel
theorem d_Mo_different_9 : decode prog_10_method_39_code 9 = .ok (.if_icmp .ge 48, 3) := by decide +kernel
theorem d_Mo_different_12 : decode prog_10_method_39_code 12 = .ok (.iload_n 2, 1) := by decide +kernel
theorem d_Mo_different_13 : decode prog_10_method_39_code 13 = .ok (.aload_n 0, 1) := by decide +kernel
theorem d_Mo_different_14 : decode prog_10_method_39_code 14 = .ok (.getfield 16, 3) := by decide +kernel
theorem d_Mo_different_17 : decode prog_10_method_39_code 17 = .ok (.iload_n 1, 1) := by decide +kernel
theorem d_Mo_different_18 : decode prog_10_method_39_code 18 = .ok (.iaload, 1) := by decide +kernel
theorem d_Mo_different_19 : decode prog_10_method_39_code 19 = .ok (.iload_n 3, 1) := by decide +kernel
theorem d_Mo_different_20 : decode prog_10_method_39_code 20 = .ok (.ishr, 1) := by decide +kernel
theorem d_Mo_different_21 : decode prog_10_method_39_code 21 = .ok (.iconst 1, 1) := by decide +kernel
theorem d_Mo_different_22 : decode prog_10_method_39_code 22 = .ok (.iand, 1) := by decide +kernel
theorem d_Mo_different_23 : decode prog_10_method_39_code 23 = .ok (.iconst 1, 1) := by decide +kernel
theorem d_Mo_different_24 : decode prog_10_method_39_code 24 = .ok (.if_icmp .ne 24, 3) := by decide +kernel
theorem d_Mo_different_27 : decode prog_10_method_39_code 27 = .ok (.aload_n 0, 1) := by decide +kernel
theorem d_Mo_different_28 : decode prog_10_method_39_code 28 = .ok (.getfield 28, 3) := by decide +kernel
theorem d_Mo_different_31 : decode prog_10_method_39_code 31 = .ok (.iload_n 3, 1) := by decide +kernel
theorem d_Mo_different_32 : decode prog_10_method_39_code 32 = .ok (.iaload, 1) := by decide +kernel
theorem d_Mo_different_33 : decode prog_10_method_39_code 33 = .ok (.iconst (-1), 1) := by decide +kernel
theorem d_Mo_different_34 : decode prog_10_method_39_code 34 = .ok (.if_icmp .eq 14, 3) := by decide +kernel
theorem d_Mo_different_37 : decode prog_10_method_39_code 37 = .ok (.iconst 1, 1) := by decide +kernel
theorem d_Mo_different_38 : decode prog_10_method_39_code 38 = .ok (.aload_n 0, 1) := by decide +kernel
theorem d_Mo_different_39 : decode prog_10_method_39_code 39 = .ok (.getfield 28, 3) := by decide +kernel
theorem d_Mo_different_42 : decode prog_10_method_39_code 42 = .ok (.iload_n 3, 1) := by decide +kernel
theorem d_Mo_different_43 : decode prog_10_method_39_code 43 = .ok (.iaload, 1) := by decide +kernel
theorem d_Mo_different_44 : decode prog_10_method_39_code 44 = .ok (.ishl, 1) := by decide +kernel
theorem d_Mo_different_45 : decode prog_10_method_39_code 45 = .ok (.goto 4, 3) := by decide +kernel
theorem d_Mo_different_48 : decode prog_10_method_39_code 48 = .ok (.iconst 0, 1) := by decide +kernel
theorem d_Mo_different_49 : decode prog_10_method_39_code 49 = .ok (.ior, 1) := by decide +kernel
theorem d_Mo_different_50 : decode prog_10_method_39_code 50 = .ok (.istore_n 2, 1) := by decide +kernel
theorem d_Mo_different_51 : decode prog_10_method_39_code 51 = .ok (.iinc 3 1, 3) := by decide +kernel
theorem d_Mo_different_54 : decode prog_10_method_39_code 54 = .ok (.goto (-50), 3) := by decide +kernel
theorem d_Mo_different_57 : decode prog_10_method_39_code 57 = .ok (.iload_n 2, 1) := by decide +kernel
theorem d_Mo_different_58 : decode prog_10_method_39_code 58 = .ok (.invokestatic 145, 3) := by decide +kernel
theorem d_Mo_different_61 : decode prog_10_method_39_code 61 = .ok (.ireturn, 1) := by decide +kernel
abbrev wd_Mo_different (cI cJ cG cZ : ClassId) (a0 a0_from a0_to a0_near a0_lists a0_colours a0_shades a0_tints a0_attempt a0_taken a0_isApart a0_ways a0_next a0_splits a0_powers a0_row a0_many a0_can a0_could a0_arcRow a0_order a0_isOut : Nat) (v0_thrown : Int32) (v0_nodes : Int32) (v0_arcs : Int32) (v0_takenMany : Int32) (v0_leftBits : Int32) (v0_hasPolynomial : Int32) (v0_hasLists : Int32) (w0_near : Nat → Int32) (w0_tints : Nat → Int32) : va_W := [(a0, .inr (8, [.int v0_thrown, .int v0_nodes, .int v0_arcs, .ref a0_from, .ref a0_to, .ref a0_near, .ref a0_lists, .ref a0_colours, .ref a0_shades, .ref a0_tints, .ref a0_attempt, .int v0_takenMany, .ref a0_taken, .int v0_leftBits, .ref a0_isApart, .ref a0_ways, .ref a0_next, .ref a0_splits, .ref a0_powers, .ref a0_row, .ref a0_many, .int v0_hasPolynomial, .int v0_hasLists, .ref a0_can, .ref a0_could, .ref a0_arcRow, .ref a0_order, .ref a0_isOut])), (a0_near, .inl (cI, 12, .inl w0_near)), (a0_tints, .inl (cI, 12, .inl w0_tints))]
abbrev us_Mo_different : List Cond := .code y_Mo_different prog_10_method_39_code 4 (some .int) :: gtbl
abbrev rm_Mo_different : Room := { frames := 1, cells := 0, slots := 0, locals := 22 }
def m_Mo_different (F : Nat) (v0_thrown : Int32) (v0_nodes : Int32) (v0_arcs : Int32) (v0_takenMany : Int32) (v0_leftBits : Int32) (v0_hasPolynomial : Int32) (v0_hasLists : Int32) (w0_near : Nat → Int32) (w0_tints : Nat → Int32) (p1 : Int32) : Option (Int32) :=
  gL (fun (k_4 : (Int32 × Int32) → Option (Int32)) (z_4 : Int32 × Int32) => match z_4 with
  | (x2_1, x3_2) =>
  if v0_nodes ≤ x3_2 then (
    gM (m_Mo_count F x2_1) (fun q_4 =>
    some q_4)
  ) else (
    gC (inb p1 12) (
    if (((w0_near p1.toNatClampNeg) >>> (x3_2 &&& 31)) &&& 1) = (1 : Int32) then (
      gC (inb x3_2 12) (
      if (w0_tints x3_2.toNatClampNeg) = ((-1) : Int32) then (
        gB (x2_1 ||| 0) (fun x2_13 =>
        gB (x3_2 + 1) (fun x3_14 =>
        k_4 (x2_13, x3_14)))
      ) else (
        gC (inb x3_2 12) (
        gB (x2_1 ||| ((1 : Int32) <<< ((w0_tints x3_2.toNatClampNeg) &&& 31))) (fun x2_16 =>
        gB (x3_2 + 1) (fun x3_17 =>
        k_4 (x2_16, x3_17))))
      ))
    ) else (
      gB (x2_1 ||| 0) (fun x2_9 =>
      gB (x3_2 + 1) (fun x3_10 =>
      k_4 (x2_9, x3_10)))
    ))
  )
  ) F (0, 0)
set_option maxHeartbeats 4000000 in
set_option maxRecDepth 100000 in
theorem c_Mo_different (l : Launch) (dC : Nat → ClassId) (dI : Nat → Nat → Nat) (cI cJ cG cZ : ClassId) (a0 a0_from a0_to a0_near a0_lists a0_colours a0_shades a0_tints a0_attempt a0_taken a0_isApart a0_ways a0_next a0_splits a0_powers a0_row a0_many a0_can a0_could a0_arcRow a0_order a0_isOut : Nat) (sz : Nat) (F : Nat) (v0_thrown : Int32) (v0_nodes : Int32) (v0_arcs : Int32) (v0_takenMany : Int32) (v0_leftBits : Int32) (v0_hasPolynomial : Int32) (v0_hasLists : Int32) (w0_near : Nat → Int32) (w0_tints : Nat → Int32) (p1 : Int32) (ret : Int32) (hm : m_Mo_different F v0_thrown v0_nodes v0_arcs v0_takenMany v0_leftBits v0_hasPolynomial v0_hasLists w0_near w0_tints p1 = some ret) : Met l y_Mo_different us_Mo_different rm_Mo_different (PcS (dC, dI) (tyL cI cJ cG cZ) [.ref a0, .int p1] sz (wd_Mo_different cI cJ cG cZ a0 a0_from a0_to a0_near a0_lists a0_colours a0_shades a0_tints a0_attempt a0_taken a0_isApart a0_ways a0_next a0_splits a0_powers a0_row a0_many a0_can a0_could a0_arcRow a0_order a0_isOut v0_thrown v0_nodes v0_arcs v0_takenMany v0_leftBits v0_hasPolynomial v0_hasLists w0_near w0_tints)) (va_Qi (fun (r : Int32) (_ : Unit) => ret = r) (fun _ t => PoS (dC, dI) (tyL cI cJ cG cZ) (wd_Mo_different cI cJ cG cZ a0 a0_from a0_to a0_near a0_lists a0_colours a0_shades a0_tints a0_attempt a0_taken a0_isApart a0_ways a0_next a0_splits a0_powers a0_row a0_many a0_can a0_could a0_arcRow a0_order a0_isOut v0_thrown v0_nodes v0_arcs v0_takenMany v0_leftBits v0_hasPolynomial v0_hasLists w0_near w0_tints) (va_A (wd_Mo_different cI cJ cG cZ a0 a0_from a0_to a0_near a0_lists a0_colours a0_shades a0_tints a0_attempt a0_taken a0_isApart a0_ways a0_next a0_splits a0_powers a0_row a0_many a0_can a0_could a0_arcRow a0_order a0_isOut v0_thrown v0_nodes v0_arcs v0_takenMany v0_leftBits v0_hasPolynomial v0_hasLists w0_near w0_tints) sz) t) (va_A (wd_Mo_different cI cJ cG cZ a0 a0_from a0_to a0_near a0_lists a0_colours a0_shades a0_tints a0_attempt a0_taken a0_isApart a0_ways a0_next a0_splits a0_powers a0_row a0_many a0_can a0_could a0_arcRow a0_order a0_isOut v0_thrown v0_nodes v0_arcs v0_takenMany v0_leftBits v0_hasPolynomial v0_hasLists w0_near w0_tints) sz)) 0 0 (va_A (wd_Mo_different cI cJ cG cZ a0 a0_from a0_to a0_near a0_lists a0_colours a0_shades a0_tints a0_attempt a0_taken a0_isApart a0_ways a0_next a0_splits a0_powers a0_row a0_many a0_can a0_could a0_arcRow a0_order a0_isOut v0_thrown v0_nodes v0_arcs v0_takenMany v0_leftBits v0_hasPolynomial v0_hasLists w0_near w0_tints) sz) := by
  refine Met.ofW (cc := prog_10_method_39_code) (maxL := 4) (ret := (some .int)) (by decide) rfl ?_
  intro p e s m args below meth c s₁ B hml hv
  obtain ⟨rfl, hsz, hP, hK, hD0, hNw⟩ := hv
  have hx := B.exec
  have hb := B.bytes
  have hr := B.returns
  have htt : ∀ w ∈ gtbl, w.before _ s = true := fun w h => atoms_spec (ws := us_Mo_different) B.pre w (List.mem_cons_of_mem _ h)
  have hown : s.vm.findClass R_Mo = some m.cls := findClass_of_methodNamed B.named
  have hlocks := B.notSynchronized
  subst hsz
  have hD := hD0.self (sz := s.heap.size)
  generalize hAe : va_A (wd_Mo_different cI cJ cG cZ a0 a0_from a0_to a0_near a0_lists a0_colours a0_shades a0_tints a0_attempt a0_taken a0_isApart a0_ways a0_next a0_splits a0_powers a0_row a0_many a0_can a0_could a0_arcRow a0_order a0_isOut v0_thrown v0_nodes v0_arcs v0_takenMany v0_leftBits v0_hasPolynomial v0_hasLists w0_near w0_tints) s.heap.size = A at hD ⊢
  have hA : ∀ q : Nat, s.heap.size ≤ q → A q := fun q h => by rw [← hAe]; exact Or.inr h
  clear hAe hD0
  have hS : va_S A s.heap s.heap [] := va_S.rf
  have hl := lv_entry ([.ref a0, .int p1]) (n := 4) (Nat.le_of_ble_eq_true rfl)
  rw [lg_entry_eq]
  generalize (lg_sl ([.ref a0, .int p1]) ++ List.replicate (4 - (lg_sl ([.ref a0, .int p1])).length) Slot.unset).toArray = ls at hl ⊢
  have hl : lv_has ls 4 [(0, .ref a0), (1, .int p1)] := hl
  generalize hH : s.heap = H at hP ⊢
  have hS : va_S A s.heap H [] := hH ▸ hS
  generalize hLo : ([] : List Loc) = locs at hS ⊢
  clear hH hLo
  unfold m_Mo_different at hm
  refine lv_iconst (v := 0) hx hb d_Mo_different_0 (by decide) ?_
  refine lv_istore_n (lv' := [(2, .int 0), (0, .ref a0), (1, .int p1)]) hx hb d_Mo_different_1 rfl hl (by decide) rfl (fun ls hl => ?_)
  refine lv_iconst (v := 0) hx hb d_Mo_different_2 (by decide) ?_
  refine lv_istore_n (lv' := [(3, .int 0), (2, .int 0), (0, .ref a0), (1, .int p1)]) hx hb d_Mo_different_3 rfl hl (by decide) rfl (fun ls hl => ?_)
  refine gL_e (P := (fun (z_4 : Int32 × Int32) => ∀ (x2_1 : Int32), ∀ (x3_2 : Int32), z_4 = (x2_1, x3_2) → ∀ (ls : Array Slot) (H : Heap) (locs : List Loc), lv_has ls 4 [(0, .ref a0), (1, .int p1), (2, .int x2_1), (3, .int x3_2)] → va_P (dC, dI) vwCl (wd_Mo_different cI cJ cG cZ a0 a0_from a0_to a0_near a0_lists a0_colours a0_shades a0_tints a0_attempt a0_taken a0_isApart a0_ways a0_next a0_splits a0_powers a0_row a0_many a0_can a0_could a0_arcRow a0_order a0_isOut v0_thrown v0_nodes v0_arcs v0_takenMany v0_leftBits v0_hasPolynomial v0_hasLists w0_near w0_tints) H → va_D A (wd_Mo_different cI cJ cG cZ a0 a0_from a0_to a0_near a0_lists a0_colours a0_shades a0_tints a0_attempt a0_taken a0_isApart a0_ways a0_next a0_splits a0_powers a0_row a0_many a0_can a0_could a0_arcRow a0_order a0_isOut v0_thrown v0_nodes v0_arcs v0_takenMany v0_leftBits v0_hasPolynomial v0_hasLists w0_near w0_tints) → va_S A s.heap H locs → W p l e (headSpec us_Mo_different rm_Mo_different).room s m ([.ref a0, .int p1] : List Value).toArray below meth c H locs 0 0 (MQ below (va_Qi (fun (r : Int32) (_ : Unit) => ret = r) (fun _ t => PoS (dC, dI) (tyL cI cJ cG cZ) (wd_Mo_different cI cJ cG cZ a0 a0_from a0_to a0_near a0_lists a0_colours a0_shades a0_tints a0_attempt a0_taken a0_isApart a0_ways a0_next a0_splits a0_powers a0_row a0_many a0_can a0_could a0_arcRow a0_order a0_isOut v0_thrown v0_nodes v0_arcs v0_takenMany v0_leftBits v0_hasPolynomial v0_hasLists w0_near w0_tints) A t) A) ([.ref a0, .int p1] : List Value).toArray s 0 0 A) (F0 m 4 ls []))) hm (fun k_4 z_4 ih_4 hm => ?_) _ _ rfl ls H locs (lv_sub hl [2, 3, 1, 0] rfl) hP hD hS
  intro x2_1 x3_2 hz ls H locs hl hP hD hS
  subst hz
  dsimp only at hm
  refine lv_iload_n hx hb d_Mo_different_4 rfl (lv_at hl 3 rfl) ?_
  refine lv_aload_n hx hb d_Mo_different_5 rfl (lv_at hl 0 rfl) ?_
  refine va_get (D := (dC, dI)) (ci := 8) (v := .int v0_nodes) (C := R_Mo) (T := T_Mo) (N := 28) hx hb htt hin_Mo hown hK hP 0 rfl rfl 1 (by decide) (htt _ kt_770) (fun _ h9 => h9) rfl d_Mo_different_6 ?_
  refine lv_icmp_ge (tgt := 57) hx hb d_Mo_different_9 (by decide) (fun c_3 => ?_) (fun c_3 => ?_)
  · have hm := ite_t c_3 hm
    refine lv_iload_n hx hb d_Mo_different_57 rfl (lv_at hl 2 rfl) ?_
    obtain ⟨q_4, hc_5, hm⟩ := gM_e hm
    have hPc : va_P (dC, dI) vwCl (wd_Mo_count cI cJ cG cZ) H := hP.sub [] rfl
    have hDc : va_D A (wd_Mo_count cI cJ cG cZ) := hD.sub [] (by decide) rfl
    have hFc : ∀ q, va_A (wd_Mo_count cI cJ cG cZ) H.size q → A q := va_free hD hS hA [] rfl
    refine va_calli (va_runS (As := [.int x2_1]) (rest := []) ⟨hx, hb, hml, hown, htt⟩ (c_Mo_count l dC dI cI cJ cG cZ H.size F x2_1 q_4 hc_5) (cwS 1 htt (gdS kt_972 kt_973 kt_10 kt_974) rfl rfl rfl (by decide +kernel) ⟨(Nat.le_of_ble_eq_true rfl), (Nat.le_of_ble_eq_true rfl)⟩) ⟨PcS_blind, PcS_in hPc hK hDc hNw⟩ rfl rfl hl.1 rfl (lv_room (Nat.le_of_ble_eq_true rfl)) d_Mo_different_58 ⟨Nat.zero_le _, Nat.zero_le _⟩) hS (fun q _ h => hFc q h) hFc (fun r_6 u t H1 locs ht hvm hw hB hz1 hk1 hS => ?_)
    obtain ⟨hP1, hK1, hD1⟩ := hB
    rw [ht] at hP1
    subst hw
    obtain ⟨hP, hD⟩ := va_join (wr := [(a0, .inr (8, [.int v0_thrown, .int v0_nodes, .int v0_arcs, .ref a0_from, .ref a0_to, .ref a0_near, .ref a0_lists, .ref a0_colours, .ref a0_shades, .ref a0_tints, .ref a0_attempt, .int v0_takenMany, .ref a0_taken, .int v0_leftBits, .ref a0_isApart, .ref a0_ways, .ref a0_next, .ref a0_splits, .ref a0_powers, .ref a0_row, .ref a0_many, .int v0_hasPolynomial, .int v0_hasLists, .ref a0_can, .ref a0_could, .ref a0_arcRow, .ref a0_order, .ref a0_isOut])), (a0_near, .inl (cI, 12, .inl w0_near)), (a0_tints, .inl (cI, 12, .inl w0_tints))]) (w1 := (wd_Mo_count cI cJ cG cZ)) hP hD [] [0, 1, 2] rfl rfl (by decide) (by decide) hk1 hFc hP1 hD1
    have hP : va_P (dC, dI) vwCl (wd_Mo_different cI cJ cG cZ a0 a0_from a0_to a0_near a0_lists a0_colours a0_shades a0_tints a0_attempt a0_taken a0_isApart a0_ways a0_next a0_splits a0_powers a0_row a0_many a0_can a0_could a0_arcRow a0_order a0_isOut v0_thrown v0_nodes v0_arcs v0_takenMany v0_leftBits v0_hasPolynomial v0_hasLists w0_near w0_tints) H1 := hP.sub [0, 1, 2] rfl
    have hD : va_D A (wd_Mo_different cI cJ cG cZ a0 a0_from a0_to a0_near a0_lists a0_colours a0_shades a0_tints a0_attempt a0_taken a0_isApart a0_ways a0_next a0_splits a0_powers a0_row a0_many a0_can a0_could a0_arcRow a0_order a0_isOut v0_thrown v0_nodes v0_arcs v0_takenMany v0_leftBits v0_hasPolynomial v0_hasLists w0_near w0_tints) := hD.sub [0, 1, 2] (by decide) rfl
    clear hP1 hK1 hD1 hk1 hPc hDc hFc ht hvm hz1
    generalize H1 = H at hP hS ⊢
    cases hm
    exact W.iret hx hb hr (fun t ht hW => ⟨⟨_, (), rfl, rfl, by rw [ht]; exact hP, va_K.moved hW.alike hK, hD⟩, hS.F ht⟩) hS.2.2 d_Mo_different_61
  · have hm := ite_f c_3 hm
    refine lv_iload_n hx hb d_Mo_different_12 rfl (lv_at hl 2 rfl) ?_
    refine lv_aload_n hx hb d_Mo_different_13 rfl (lv_at hl 0 rfl) ?_
    refine va_get (D := (dC, dI)) (ci := 8) (v := .ref a0_near) (C := R_Mo) (T := T_Mo) (N := 28) hx hb htt hin_Mo hown hK hP 0 rfl rfl 5 (by decide) (htt _ kt_774) (fun _ h9 => h9) rfl d_Mo_different_14 ?_
    refine lv_iload_n hx hb d_Mo_different_17 rfl (lv_at hl 1 rfl) ?_
    obtain ⟨hi_7, hm⟩ := gC_e hm
    refine va_iald hx hb hK hP 1 0 rfl rfl (inb_vp hi_7) d_Mo_different_18 ?_
    refine lv_iload_n hx hb d_Mo_different_19 rfl (lv_at hl 3 rfl) ?_
    refine lv_ishr hx hb d_Mo_different_20 ?_
    refine lv_iconst (v := 1) hx hb d_Mo_different_21 (by decide) ?_
    refine lv_iand hx hb d_Mo_different_22 ?_
    refine lv_iconst (v := 1) hx hb d_Mo_different_23 (by decide) ?_
    refine lv_icmp_ne (tgt := 48) hx hb d_Mo_different_24 (by decide) (fun c_8 => ?_) (fun c_8 => ?_)
    · have hm := ite_f c_8 hm
      refine lv_iconst (v := 0) hx hb d_Mo_different_48 (by decide) ?_
      refine lv_ior hx hb d_Mo_different_49 ?_
      refine lv_topi (fun x2_9 ex2_9 => ?_)
      have hm := gB_at ex2_9 hm
      refine lv_istore_n (lv' := [(2, .int x2_9), (0, .ref a0), (1, .int p1), (3, .int x3_2)]) hx hb d_Mo_different_50 rfl hl (by decide) rfl (fun ls hl => ?_)
      obtain ⟨x3_10, ex3_10⟩ : ∃ y : Int32, y = x3_2 + 1 := ⟨_, rfl⟩
      have hm := gB_at ex3_10 hm
      refine lv_iinc (v := x3_10) (lv' := [(3, .int x3_10), (2, .int x2_9), (0, .ref a0), (1, .int p1)]) hx hb d_Mo_different_51 hl (k := 3) rfl (by rw [ex3_10]; rfl) (by decide) rfl (fun ls hl => ?_)
      refine lv_goto (tgt := 4) hx hb d_Mo_different_54 (by decide) ?_
      exact ih_4 _ hm _ _ rfl ls H locs (lv_sub hl [2, 3, 1, 0] rfl) hP hD hS
    · have hm := ite_t c_8 hm
      refine lv_aload_n hx hb d_Mo_different_27 rfl (lv_at hl 0 rfl) ?_
      refine va_get (D := (dC, dI)) (ci := 8) (v := .ref a0_tints) (C := R_Mo) (T := T_Mo) (N := 28) hx hb htt hin_Mo hown hK hP 0 rfl rfl 9 (by decide) (htt _ kt_778) (fun _ h9 => h9) rfl d_Mo_different_28 ?_
      refine lv_iload_n hx hb d_Mo_different_31 rfl (lv_at hl 3 rfl) ?_
      obtain ⟨hi_11, hm⟩ := gC_e hm
      refine va_iald hx hb hK hP 2 0 rfl rfl (inb_vp hi_11) d_Mo_different_32 ?_
      refine lv_iconst (v := (-1)) hx hb d_Mo_different_33 (by decide) ?_
      refine lv_icmp_eq (tgt := 48) hx hb d_Mo_different_34 (by decide) (fun c_12 => ?_) (fun c_12 => ?_)
      · have hm := ite_t c_12 hm
        refine lv_iconst (v := 0) hx hb d_Mo_different_48 (by decide) ?_
        refine lv_ior hx hb d_Mo_different_49 ?_
        refine lv_topi (fun x2_13 ex2_13 => ?_)
        have hm := gB_at ex2_13 hm
        refine lv_istore_n (lv' := [(2, .int x2_13), (0, .ref a0), (1, .int p1), (3, .int x3_2)]) hx hb d_Mo_different_50 rfl hl (by decide) rfl (fun ls hl => ?_)
        obtain ⟨x3_14, ex3_14⟩ : ∃ y : Int32, y = x3_2 + 1 := ⟨_, rfl⟩
        have hm := gB_at ex3_14 hm
        refine lv_iinc (v := x3_14) (lv' := [(3, .int x3_14), (2, .int x2_13), (0, .ref a0), (1, .int p1)]) hx hb d_Mo_different_51 hl (k := 3) rfl (by rw [ex3_14]; rfl) (by decide) rfl (fun ls hl => ?_)
        refine lv_goto (tgt := 4) hx hb d_Mo_different_54 (by decide) ?_
        exact ih_4 _ hm _ _ rfl ls H locs (lv_sub hl [2, 3, 1, 0] rfl) hP hD hS
      · have hm := ite_f c_12 hm
        refine lv_iconst (v := 1) hx hb d_Mo_different_37 (by decide) ?_
        refine lv_aload_n hx hb d_Mo_different_38 rfl (lv_at hl 0 rfl) ?_
        refine va_get (D := (dC, dI)) (ci := 8) (v := .ref a0_tints) (C := R_Mo) (T := T_Mo) (N := 28) hx hb htt hin_Mo hown hK hP 0 rfl rfl 9 (by decide) (htt _ kt_778) (fun _ h9 => h9) rfl d_Mo_different_39 ?_
        refine lv_iload_n hx hb d_Mo_different_42 rfl (lv_at hl 3 rfl) ?_
        obtain ⟨hi_15, hm⟩ := gC_e hm
        refine va_iald hx hb hK hP 2 0 rfl rfl (inb_vp hi_15) d_Mo_different_43 ?_
        refine lv_ishl hx hb d_Mo_different_44 ?_
        refine lv_goto (tgt := 49) hx hb d_Mo_different_45 (by decide) ?_
        refine lv_ior hx hb d_Mo_different_49 ?_
        refine lv_topi (fun x2_16 ex2_16 => ?_)
        have hm := gB_at ex2_16 hm
        refine lv_istore_n (lv' := [(2, .int x2_16), (0, .ref a0), (1, .int p1), (3, .int x3_2)]) hx hb d_Mo_different_50 rfl hl (by decide) rfl (fun ls hl => ?_)
        obtain ⟨x3_17, ex3_17⟩ : ∃ y : Int32, y = x3_2 + 1 := ⟨_, rfl⟩
        have hm := gB_at ex3_17 hm
        refine lv_iinc (v := x3_17) (lv' := [(3, .int x3_17), (2, .int x2_16), (0, .ref a0), (1, .int p1)]) hx hb d_Mo_different_51 hl (k := 3) rfl (by rw [ex3_17]; rfl) (by decide) rfl (fun ls hl => ?_)
        refine lv_goto (tgt := 4) hx hb d_Mo_different_54 (by decide) ?_
        exact ih_4 _ hm _ _ rfl ls H locs (lv_sub hl [2, 3, 1, 0] rfl) hP hD hS
theorem d_Mo_orderByNear_0 : decode prog_10_method_40_code 0 = .ok (.iconst 0, 1) := by decide +kernel
theorem d_Mo_orderByNear_1 : decode prog_10_method_40_code 1 = .ok (.istore_n 1, 1) := by decide +kernel
theorem d_Mo_orderByNear_2 : decode prog_10_method_40_code 2 = .ok (.iload_n 1, 1) := by decide +kernel
theorem d_Mo_orderByNear_3 : decode prog_10_method_40_code 3 = .ok (.aload_n 0, 1) := by decide +kernel
theorem d_Mo_orderByNear_4 : decode prog_10_method_40_code 4 = .ok (.getfield 86, 3) := by decide +kernel
theorem d_Mo_orderByNear_7 : decode prog_10_method_40_code 7 = .ok (.if_icmp .ge 82, 3) := by decide +kernel
theorem d_Mo_orderByNear_10 : decode prog_10_method_40_code 10 = .ok (.iconst (-1), 1) := by decide +kernel
theorem d_Mo_orderByNear_11 : decode prog_10_method_40_code 11 = .ok (.istore_n 2, 1) := by decide +kernel
theorem d_Mo_orderByNear_12 : decode prog_10_method_40_code 12 = .ok (.iconst 0, 1) := by decide +kernel
theorem d_Mo_orderByNear_13 : decode prog_10_method_40_code 13 = .ok (.istore_n 3, 1) := by decide +kernel
theorem d_Mo_orderByNear_14 : decode prog_10_method_40_code 14 = .ok (.iload_n 3, 1) := by decide +kernel
theorem d_Mo_orderByNear_15 : decode prog_10_method_40_code 15 = .ok (.aload_n 0, 1) := by decide +kernel
theorem d_Mo_orderByNear_16 : decode prog_10_method_40_code 16 = .ok (.getfield 86, 3) := by decide +kernel
theorem d_Mo_orderByNear_19 : decode prog_10_method_40_code 19 = .ok (.if_icmp .ge 50, 3) := by decide +kernel
theorem d_Mo_orderByNear_22 : decode prog_10_method_40_code 22 = .ok (.aload_n 0, 1) := by decide +kernel
theorem d_Mo_orderByNear_23 : decode prog_10_method_40_code 23 = .ok (.getfield 73, 3) := by decide +kernel
theorem d_Mo_orderByNear_26 : decode prog_10_method_40_code 26 = .ok (.iload_n 3, 1) := by decide +kernel
theorem d_Mo_orderByNear_27 : decode prog_10_method_40_code 27 = .ok (.baload, 1) := by decide +kernel
theorem d_Mo_orderByNear_28 : decode prog_10_method_40_code 28 = .ok (.ifCond .ne 33, 3) := by decide +kernel
theorem d_Mo_orderByNear_31 : decode prog_10_method_40_code 31 = .ok (.iload_n 2, 1) := by decide +kernel
theorem d_Mo_orderByNear_32 : decode prog_10_method_40_code 32 = .ok (.iconst (-1), 1) := by decide +kernel
theorem d_Mo_orderByNear_33 : decode prog_10_method_40_code 33 = .ok (.if_icmp .eq 24, 3) := by decide +kernel
theorem d_Mo_orderByNear_36 : decode prog_10_method_40_code 36 = .ok (.aload_n 0, 1) := by decide +kernel
theorem d_Mo_orderByNear_37 : decode prog_10_method_40_code 37 = .ok (.getfield 16, 3) := by decide +kernel
theorem d_Mo_orderByNear_40 : decode prog_10_method_40_code 40 = .ok (.iload_n 3, 1) := by decide +kernel
theorem d_Mo_orderByNear_41 : decode prog_10_method_40_code 41 = .ok (.iaload, 1) := by decide +kernel
theorem d_Mo_orderByNear_42 : decode prog_10_method_40_code 42 = .ok (.invokestatic 145, 3) := by decide +kernel
theorem d_Mo_orderByNear_45 : decode prog_10_method_40_code 45 = .ok (.aload_n 0, 1) := by decide +kernel
theorem d_Mo_orderByNear_46 : decode prog_10_method_40_code 46 = .ok (.getfield 16, 3) := by decide +kernel
theorem d_Mo_orderByNear_49 : decode prog_10_method_40_code 49 = .ok (.iload_n 2, 1) := by decide +kernel
theorem d_Mo_orderByNear_50 : decode prog_10_method_40_code 50 = .ok (.iaload, 1) := by decide +kernel
theorem d_Mo_orderByNear_51 : decode prog_10_method_40_code 51 = .ok (.invokestatic 145, 3) := by decide +kernel
theorem d_Mo_orderByNear_54 : decode prog_10_method_40_code 54 = .ok (.if_icmp .le 7, 3) := by decide +kernel
theorem d_Mo_orderByNear_57 : decode prog_10_method_40_code 57 = .ok (.iload_n 3, 1) := by decide +kernel
theorem d_Mo_orderByNear_58 : decode prog_10_method_40_code 58 = .ok (.goto 4, 3) := by decide +kernel
theorem d_Mo_orderByNear_61 : decode prog_10_method_40_code 61 = .ok (.iload_n 2, 1) := by decide +kernel
theorem d_Mo_orderByNear_62 : decode prog_10_method_40_code 62 = .ok (.istore_n 2, 1) := by decide +kernel
theorem d_Mo_orderByNear_63 : decode prog_10_method_40_code 63 = .ok (.iinc 3 1, 3) := by decide +kernel
theorem d_Mo_orderByNear_66 : decode prog_10_method_40_code 66 = .ok (.goto (-52), 3) := by decide +kernel
theorem d_Mo_orderByNear_69 : decode prog_10_method_40_code 69 = .ok (.aload_n 0, 1) := by decide +kernel
theorem d_Mo_orderByNear_70 : decode prog_10_method_40_code 70 = .ok (.getfield 73, 3) := by decide +kernel
theorem d_Mo_orderByNear_73 : decode prog_10_method_40_code 73 = .ok (.iload_n 2, 1) := by decide +kernel
theorem d_Mo_orderByNear_74 : decode prog_10_method_40_code 74 = .ok (.iconst 1, 1) := by decide +kernel
theorem d_Mo_orderByNear_75 : decode prog_10_method_40_code 75 = .ok (.bastore, 1) := by decide +kernel
theorem d_Mo_orderByNear_76 : decode prog_10_method_40_code 76 = .ok (.aload_n 0, 1) := by decide +kernel
theorem d_Mo_orderByNear_77 : decode prog_10_method_40_code 77 = .ok (.getfield 70, 3) := by decide +kernel
theorem d_Mo_orderByNear_80 : decode prog_10_method_40_code 80 = .ok (.iload_n 1, 1) := by decide +kernel
theorem d_Mo_orderByNear_81 : decode prog_10_method_40_code 81 = .ok (.iload_n 2, 1) := by decide +kernel
theorem d_Mo_orderByNear_82 : decode prog_10_method_40_code 82 = .ok (.iastore, 1) := by decide +kernel
theorem d_Mo_orderByNear_83 : decode prog_10_method_40_code 83 = .ok (.iinc 1 1, 3) := by decide +kernel
theorem d_Mo_orderByNear_86 : decode prog_10_method_40_code 86 = .ok (.goto (-84), 3) := by decide +kernel
theorem d_Mo_orderByNear_89 : decode prog_10_method_40_code 89 = .ok (.return_, 1) := by decide +kernel
abbrev wd_Mo_orderByNear (cI cJ cG cZ : ClassId) (a0 a0_from a0_to a0_near a0_lists a0_colours a0_shades a0_tints a0_attempt a0_taken a0_isApart a0_ways a0_next a0_splits a0_powers a0_row a0_many a0_can a0_could a0_arcRow a0_order a0_isOut : Nat) (v0_thrown : Int32) (v0_nodes : Int32) (v0_arcs : Int32) (v0_takenMany : Int32) (v0_leftBits : Int32) (v0_hasPolynomial : Int32) (v0_hasLists : Int32) (w0_near : Nat → Int32) (w0_order : Nat → Int32) (w0_isOut : Nat → Int32) : va_W := [(a0, .inr (8, [.int v0_thrown, .int v0_nodes, .int v0_arcs, .ref a0_from, .ref a0_to, .ref a0_near, .ref a0_lists, .ref a0_colours, .ref a0_shades, .ref a0_tints, .ref a0_attempt, .int v0_takenMany, .ref a0_taken, .int v0_leftBits, .ref a0_isApart, .ref a0_ways, .ref a0_next, .ref a0_splits, .ref a0_powers, .ref a0_row, .ref a0_many, .int v0_hasPolynomial, .int v0_hasLists, .ref a0_can, .ref a0_could, .ref a0_arcRow, .ref a0_order, .ref a0_isOut])), (a0_near, .inl (cI, 12, .inl w0_near)), (a0_order, .inl (cI, 12, .inl w0_order)), (a0_isOut, .inl (cZ, 12, .inl w0_isOut))]
abbrev us_Mo_orderByNear : List Cond := .code y_Mo_orderByNear prog_10_method_40_code 4 none :: gtbl
abbrev rm_Mo_orderByNear : Room := { frames := 1, cells := 0, slots := 0, locals := 22 }
def m_Mo_orderByNear (F : Nat) (v0_thrown : Int32) (v0_nodes : Int32) (v0_arcs : Int32) (v0_takenMany : Int32) (v0_leftBits : Int32) (v0_hasPolynomial : Int32) (v0_hasLists : Int32) (w0_near : Nat → Int32) (w0_order : Nat → Int32) (w0_isOut : Nat → Int32) : Option ((Nat → Int32) × (Nat → Int32)) :=
  gL (fun (k_2 : (Int32 × (Nat → Int32) × (Nat → Int32)) → Option ((Nat → Int32) × (Nat → Int32))) (z_2 : Int32 × (Nat → Int32) × (Nat → Int32)) => match z_2 with
  | (x1_1, w0_order_2, w0_isOut_3) =>
  if v0_nodes ≤ x1_1 then (
    some (w0_order_2, w0_isOut_3)
  ) else (
    gL (fun (k_14 : (Int32 × Int32) → Option ((Nat → Int32) × (Nat → Int32))) (z_14 : Int32 × Int32) => match z_14 with
    | (x2_5, x3_6) =>
    if v0_nodes ≤ x3_6 then (
      gC (inb x2_5 12) (
      gC (inb x1_1 12) (
      gB (x1_1 + 1) (fun x1_10 =>
      k_2 (x1_10, upd w0_order_2 x1_1.toNatClampNeg x2_5, upd w0_isOut_3 x2_5.toNatClampNeg (vp_nar .boolean 1)))))
    ) else (
      gC (inb x3_6 12) (
      if (w0_isOut_3 x3_6.toNatClampNeg) = 0 then (
        gB (α := Option ((Nat → Int32) × (Nat → Int32))) (
          gB (x3_6 + 1) (fun x3_14 =>
          k_14 (x3_6, x3_14))
        ) (fun J_57 =>
        if x2_5 = ((-1) : Int32) then (
          J_57
        ) else (
          gC (inb x3_6 12) (
          gM (m_Mo_count F (w0_near x3_6.toNatClampNeg)) (fun q_17 =>
          gC (inb x2_5 12) (
          gM (m_Mo_count F (w0_near x2_5.toNatClampNeg)) (fun q_21 =>
          if q_17 ≤ q_21 then (
            gB (x3_6 + 1) (fun x3_25 =>
            k_14 (x2_5, x3_25))
          ) else (
            J_57
          )))))
        )
        )
      ) else (
        gB (x3_6 + 1) (fun x3_13 =>
        k_14 (x2_5, x3_13))
      ))
    )
    ) F ((-1), 0)
  )
  ) F (0, w0_order, w0_isOut)
set_option maxHeartbeats 4000000 in
set_option maxRecDepth 100000 in
theorem c_Mo_orderByNear (l : Launch) (dC : Nat → ClassId) (dI : Nat → Nat → Nat) (cI cJ cG cZ : ClassId) (a0 a0_from a0_to a0_near a0_lists a0_colours a0_shades a0_tints a0_attempt a0_taken a0_isApart a0_ways a0_next a0_splits a0_powers a0_row a0_many a0_can a0_could a0_arcRow a0_order a0_isOut : Nat) (sz : Nat) (F : Nat) (v0_thrown : Int32) (v0_nodes : Int32) (v0_arcs : Int32) (v0_takenMany : Int32) (v0_leftBits : Int32) (v0_hasPolynomial : Int32) (v0_hasLists : Int32) (w0_near : Nat → Int32) (w0_order : Nat → Int32) (w0_isOut : Nat → Int32) (o_w0_order : Nat → Int32) (o_w0_isOut : Nat → Int32) (hm : m_Mo_orderByNear F v0_thrown v0_nodes v0_arcs v0_takenMany v0_leftBits v0_hasPolynomial v0_hasLists w0_near w0_order w0_isOut = some (o_w0_order, o_w0_isOut)) : Met l y_Mo_orderByNear us_Mo_orderByNear rm_Mo_orderByNear (PcS (dC, dI) (tyL cI cJ cG cZ) [.ref a0] sz (wd_Mo_orderByNear cI cJ cG cZ a0 a0_from a0_to a0_near a0_lists a0_colours a0_shades a0_tints a0_attempt a0_taken a0_isApart a0_ways a0_next a0_splits a0_powers a0_row a0_many a0_can a0_could a0_arcRow a0_order a0_isOut v0_thrown v0_nodes v0_arcs v0_takenMany v0_leftBits v0_hasPolynomial v0_hasLists w0_near w0_order w0_isOut)) (va_Qv (fun (_ : Unit) => True) (fun _ t => PoS (dC, dI) (tyL cI cJ cG cZ) (wd_Mo_orderByNear cI cJ cG cZ a0 a0_from a0_to a0_near a0_lists a0_colours a0_shades a0_tints a0_attempt a0_taken a0_isApart a0_ways a0_next a0_splits a0_powers a0_row a0_many a0_can a0_could a0_arcRow a0_order a0_isOut v0_thrown v0_nodes v0_arcs v0_takenMany v0_leftBits v0_hasPolynomial v0_hasLists w0_near o_w0_order o_w0_isOut) (va_A (wd_Mo_orderByNear cI cJ cG cZ a0 a0_from a0_to a0_near a0_lists a0_colours a0_shades a0_tints a0_attempt a0_taken a0_isApart a0_ways a0_next a0_splits a0_powers a0_row a0_many a0_can a0_could a0_arcRow a0_order a0_isOut v0_thrown v0_nodes v0_arcs v0_takenMany v0_leftBits v0_hasPolynomial v0_hasLists w0_near w0_order w0_isOut) sz) t) (va_A (wd_Mo_orderByNear cI cJ cG cZ a0 a0_from a0_to a0_near a0_lists a0_colours a0_shades a0_tints a0_attempt a0_taken a0_isApart a0_ways a0_next a0_splits a0_powers a0_row a0_many a0_can a0_could a0_arcRow a0_order a0_isOut v0_thrown v0_nodes v0_arcs v0_takenMany v0_leftBits v0_hasPolynomial v0_hasLists w0_near w0_order w0_isOut) sz)) 0 0 (va_A (wd_Mo_orderByNear cI cJ cG cZ a0 a0_from a0_to a0_near a0_lists a0_colours a0_shades a0_tints a0_attempt a0_taken a0_isApart a0_ways a0_next a0_splits a0_powers a0_row a0_many a0_can a0_could a0_arcRow a0_order a0_isOut v0_thrown v0_nodes v0_arcs v0_takenMany v0_leftBits v0_hasPolynomial v0_hasLists w0_near w0_order w0_isOut) sz) := by
  refine Met.ofW (cc := prog_10_method_40_code) (maxL := 4) (ret := none) (by decide) rfl ?_
  intro p e s m args below meth c s₁ B hml hv
  obtain ⟨rfl, hsz, hP, hK, hD0, hNw⟩ := hv
  have hx := B.exec
  have hb := B.bytes
  have hr := B.returns
  have htt : ∀ w ∈ gtbl, w.before _ s = true := fun w h => atoms_spec (ws := us_Mo_orderByNear) B.pre w (List.mem_cons_of_mem _ h)
  have hown : s.vm.findClass R_Mo = some m.cls := findClass_of_methodNamed B.named
  have hlocks := B.notSynchronized
  subst hsz
  have hD := hD0.self (sz := s.heap.size)
  generalize hAe : va_A (wd_Mo_orderByNear cI cJ cG cZ a0 a0_from a0_to a0_near a0_lists a0_colours a0_shades a0_tints a0_attempt a0_taken a0_isApart a0_ways a0_next a0_splits a0_powers a0_row a0_many a0_can a0_could a0_arcRow a0_order a0_isOut v0_thrown v0_nodes v0_arcs v0_takenMany v0_leftBits v0_hasPolynomial v0_hasLists w0_near w0_order w0_isOut) s.heap.size = A at hD ⊢
  have hA : ∀ q : Nat, s.heap.size ≤ q → A q := fun q h => by rw [← hAe]; exact Or.inr h
  clear hAe hD0
  have hS : va_S A s.heap s.heap [] := va_S.rf
  have hl := lv_entry ([.ref a0]) (n := 4) (Nat.le_of_ble_eq_true rfl)
  rw [lg_entry_eq]
  generalize (lg_sl ([.ref a0]) ++ List.replicate (4 - (lg_sl ([.ref a0])).length) Slot.unset).toArray = ls at hl ⊢
  have hl : lv_has ls 4 [(0, .ref a0)] := hl
  generalize hH : s.heap = H at hP ⊢
  have hS : va_S A s.heap H [] := hH ▸ hS
  generalize hLo : ([] : List Loc) = locs at hS ⊢
  clear hH hLo
  unfold m_Mo_orderByNear at hm
  refine lv_iconst (v := 0) hx hb d_Mo_orderByNear_0 (by decide) ?_
  refine lv_istore_n (lv' := [(1, .int 0), (0, .ref a0)]) hx hb d_Mo_orderByNear_1 rfl hl (by decide) rfl (fun ls hl => ?_)
  refine gL_e (P := (fun (z_2 : Int32 × (Nat → Int32) × (Nat → Int32)) => ∀ (x1_1 : Int32), ∀ (w0_order_2 : Nat → Int32), ∀ (w0_isOut_3 : Nat → Int32), z_2 = (x1_1, w0_order_2, w0_isOut_3) → ∀ (ls : Array Slot) (H : Heap) (locs : List Loc), lv_has ls 4 [(0, .ref a0), (1, .int x1_1)] → va_P (dC, dI) vwCl (wd_Mo_orderByNear cI cJ cG cZ a0 a0_from a0_to a0_near a0_lists a0_colours a0_shades a0_tints a0_attempt a0_taken a0_isApart a0_ways a0_next a0_splits a0_powers a0_row a0_many a0_can a0_could a0_arcRow a0_order a0_isOut v0_thrown v0_nodes v0_arcs v0_takenMany v0_leftBits v0_hasPolynomial v0_hasLists w0_near w0_order_2 w0_isOut_3) H → va_D A (wd_Mo_orderByNear cI cJ cG cZ a0 a0_from a0_to a0_near a0_lists a0_colours a0_shades a0_tints a0_attempt a0_taken a0_isApart a0_ways a0_next a0_splits a0_powers a0_row a0_many a0_can a0_could a0_arcRow a0_order a0_isOut v0_thrown v0_nodes v0_arcs v0_takenMany v0_leftBits v0_hasPolynomial v0_hasLists w0_near w0_order_2 w0_isOut_3) → va_S A s.heap H locs → W p l e (headSpec us_Mo_orderByNear rm_Mo_orderByNear).room s m ([.ref a0] : List Value).toArray below meth c H locs 0 0 (MQ below (va_Qv (fun (_ : Unit) => True) (fun _ t => PoS (dC, dI) (tyL cI cJ cG cZ) (wd_Mo_orderByNear cI cJ cG cZ a0 a0_from a0_to a0_near a0_lists a0_colours a0_shades a0_tints a0_attempt a0_taken a0_isApart a0_ways a0_next a0_splits a0_powers a0_row a0_many a0_can a0_could a0_arcRow a0_order a0_isOut v0_thrown v0_nodes v0_arcs v0_takenMany v0_leftBits v0_hasPolynomial v0_hasLists w0_near o_w0_order o_w0_isOut) A t) A) ([.ref a0] : List Value).toArray s 0 0 A) (F0 m 2 ls []))) hm (fun k_2 z_2 ih_2 hm => ?_) _ _ _ rfl ls H locs (lv_sub hl [1, 0] rfl) hP hD hS
  intro x1_1 w0_order_2 w0_isOut_3 hz ls H locs hl hP hD hS
  subst hz
  dsimp only at hm
  refine lv_iload_n hx hb d_Mo_orderByNear_2 rfl (lv_at hl 1 rfl) ?_
  refine lv_aload_n hx hb d_Mo_orderByNear_3 rfl (lv_at hl 0 rfl) ?_
  refine va_get (D := (dC, dI)) (ci := 8) (v := .int v0_nodes) (C := R_Mo) (T := T_Mo) (N := 28) hx hb htt hin_Mo hown hK hP 0 rfl rfl 1 (by decide) (htt _ kt_770) (fun _ h9 => h9) rfl d_Mo_orderByNear_4 ?_
  refine lv_icmp_ge (tgt := 89) hx hb d_Mo_orderByNear_7 (by decide) (fun c_4 => ?_) (fun c_4 => ?_)
  · have hm := ite_t c_4 hm
    cases hm
    exact W.vret hx hb hr (fun t ht hW => ⟨⟨(), rfl, trivial, by rw [ht]; exact hP, va_K.moved hW.alike hK, hD⟩, hS.F ht⟩) hS.2.2 d_Mo_orderByNear_89
  · have hm := ite_f c_4 hm
    refine lv_iconst (v := (-1)) hx hb d_Mo_orderByNear_10 (by decide) ?_
    refine lv_istore_n (lv' := [(2, .int (-1)), (0, .ref a0), (1, .int x1_1)]) hx hb d_Mo_orderByNear_11 rfl hl (by decide) rfl (fun ls hl => ?_)
    refine lv_iconst (v := 0) hx hb d_Mo_orderByNear_12 (by decide) ?_
    refine lv_istore_n (lv' := [(3, .int 0), (2, .int (-1)), (0, .ref a0), (1, .int x1_1)]) hx hb d_Mo_orderByNear_13 rfl hl (by decide) rfl (fun ls hl => ?_)
    refine gL_e (P := (fun (z_14 : Int32 × Int32) => ∀ (x2_5 : Int32), ∀ (x3_6 : Int32), z_14 = (x2_5, x3_6) → ∀ (ls : Array Slot) (H : Heap) (locs : List Loc), lv_has ls 4 [(0, .ref a0), (1, .int x1_1), (2, .int x2_5), (3, .int x3_6)] → va_P (dC, dI) vwCl (wd_Mo_orderByNear cI cJ cG cZ a0 a0_from a0_to a0_near a0_lists a0_colours a0_shades a0_tints a0_attempt a0_taken a0_isApart a0_ways a0_next a0_splits a0_powers a0_row a0_many a0_can a0_could a0_arcRow a0_order a0_isOut v0_thrown v0_nodes v0_arcs v0_takenMany v0_leftBits v0_hasPolynomial v0_hasLists w0_near w0_order_2 w0_isOut_3) H → va_D A (wd_Mo_orderByNear cI cJ cG cZ a0 a0_from a0_to a0_near a0_lists a0_colours a0_shades a0_tints a0_attempt a0_taken a0_isApart a0_ways a0_next a0_splits a0_powers a0_row a0_many a0_can a0_could a0_arcRow a0_order a0_isOut v0_thrown v0_nodes v0_arcs v0_takenMany v0_leftBits v0_hasPolynomial v0_hasLists w0_near w0_order_2 w0_isOut_3) → va_S A s.heap H locs → W p l e (headSpec us_Mo_orderByNear rm_Mo_orderByNear).room s m ([.ref a0] : List Value).toArray below meth c H locs 0 0 (MQ below (va_Qv (fun (_ : Unit) => True) (fun _ t => PoS (dC, dI) (tyL cI cJ cG cZ) (wd_Mo_orderByNear cI cJ cG cZ a0 a0_from a0_to a0_near a0_lists a0_colours a0_shades a0_tints a0_attempt a0_taken a0_isApart a0_ways a0_next a0_splits a0_powers a0_row a0_many a0_can a0_could a0_arcRow a0_order a0_isOut v0_thrown v0_nodes v0_arcs v0_takenMany v0_leftBits v0_hasPolynomial v0_hasLists w0_near o_w0_order o_w0_isOut) A t) A) ([.ref a0] : List Value).toArray s 0 0 A) (F0 m 14 ls []))) hm (fun k_14 z_14 ih_14 hm => ?_) _ _ rfl ls H locs (lv_sub hl [2, 3, 1, 0] rfl) hP hD hS
    intro x2_5 x3_6 hz ls H locs hl hP hD hS
    subst hz
    dsimp only at hm
    refine lv_iload_n hx hb d_Mo_orderByNear_14 rfl (lv_at hl 3 rfl) ?_
    refine lv_aload_n hx hb d_Mo_orderByNear_15 rfl (lv_at hl 0 rfl) ?_
    refine va_get (D := (dC, dI)) (ci := 8) (v := .int v0_nodes) (C := R_Mo) (T := T_Mo) (N := 28) hx hb htt hin_Mo hown hK hP 0 rfl rfl 1 (by decide) (htt _ kt_770) (fun _ h9 => h9) rfl d_Mo_orderByNear_16 ?_
    refine lv_icmp_ge (tgt := 69) hx hb d_Mo_orderByNear_19 (by decide) (fun c_7 => ?_) (fun c_7 => ?_)
    · have hm := ite_t c_7 hm
      refine lv_aload_n hx hb d_Mo_orderByNear_69 rfl (lv_at hl 0 rfl) ?_
      refine va_get (D := (dC, dI)) (ci := 8) (v := .ref a0_isOut) (C := R_Mo) (T := T_Mo) (N := 28) hx hb htt hin_Mo hown hK hP 0 rfl rfl 27 (by decide) (htt _ kt_796) (fun _ h9 => h9) rfl d_Mo_orderByNear_70 ?_
      refine lv_iload_n hx hb d_Mo_orderByNear_73 rfl (lv_at hl 2 rfl) ?_
      refine lv_iconst (v := 1) hx hb d_Mo_orderByNear_74 (by decide) ?_
      obtain ⟨hi_8, hm⟩ := gC_e hm
      refine va_zast hx hb hK hP hD hS 3 3 rfl rfl (inb_vp hi_8) d_Mo_orderByNear_75 (fun H locs hP hD hS => ?_)
      have hP : va_P (dC, dI) vwCl (wd_Mo_orderByNear cI cJ cG cZ a0 a0_from a0_to a0_near a0_lists a0_colours a0_shades a0_tints a0_attempt a0_taken a0_isApart a0_ways a0_next a0_splits a0_powers a0_row a0_many a0_can a0_could a0_arcRow a0_order a0_isOut v0_thrown v0_nodes v0_arcs v0_takenMany v0_leftBits v0_hasPolynomial v0_hasLists w0_near w0_order_2 (upd w0_isOut_3 x2_5.toNatClampNeg (vp_nar .boolean 1))) H := hP
      have hD : va_D A (wd_Mo_orderByNear cI cJ cG cZ a0 a0_from a0_to a0_near a0_lists a0_colours a0_shades a0_tints a0_attempt a0_taken a0_isApart a0_ways a0_next a0_splits a0_powers a0_row a0_many a0_can a0_could a0_arcRow a0_order a0_isOut v0_thrown v0_nodes v0_arcs v0_takenMany v0_leftBits v0_hasPolynomial v0_hasLists w0_near w0_order_2 (upd w0_isOut_3 x2_5.toNatClampNeg (vp_nar .boolean 1))) := hD
      refine lv_aload_n hx hb d_Mo_orderByNear_76 rfl (lv_at hl 0 rfl) ?_
      refine va_get (D := (dC, dI)) (ci := 8) (v := .ref a0_order) (C := R_Mo) (T := T_Mo) (N := 28) hx hb htt hin_Mo hown hK hP 0 rfl rfl 26 (by decide) (htt _ kt_795) (fun _ h9 => h9) rfl d_Mo_orderByNear_77 ?_
      refine lv_iload_n hx hb d_Mo_orderByNear_80 rfl (lv_at hl 1 rfl) ?_
      refine lv_iload_n hx hb d_Mo_orderByNear_81 rfl (lv_at hl 2 rfl) ?_
      obtain ⟨hi_9, hm⟩ := gC_e hm
      refine va_iast hx hb hK hP hD hS 2 0 rfl rfl (inb_vp hi_9) d_Mo_orderByNear_82 (fun H locs hP hD hS => ?_)
      have hP : va_P (dC, dI) vwCl (wd_Mo_orderByNear cI cJ cG cZ a0 a0_from a0_to a0_near a0_lists a0_colours a0_shades a0_tints a0_attempt a0_taken a0_isApart a0_ways a0_next a0_splits a0_powers a0_row a0_many a0_can a0_could a0_arcRow a0_order a0_isOut v0_thrown v0_nodes v0_arcs v0_takenMany v0_leftBits v0_hasPolynomial v0_hasLists w0_near (upd w0_order_2 x1_1.toNatClampNeg x2_5) (upd w0_isOut_3 x2_5.toNatClampNeg (vp_nar .boolean 1))) H := hP
      have hD : va_D A (wd_Mo_orderByNear cI cJ cG cZ a0 a0_from a0_to a0_near a0_lists a0_colours a0_shades a0_tints a0_attempt a0_taken a0_isApart a0_ways a0_next a0_splits a0_powers a0_row a0_many a0_can a0_could a0_arcRow a0_order a0_isOut v0_thrown v0_nodes v0_arcs v0_takenMany v0_leftBits v0_hasPolynomial v0_hasLists w0_near (upd w0_order_2 x1_1.toNatClampNeg x2_5) (upd w0_isOut_3 x2_5.toNatClampNeg (vp_nar .boolean 1))) := hD
      obtain ⟨x1_10, ex1_10⟩ : ∃ y : Int32, y = x1_1 + 1 := ⟨_, rfl⟩
      have hm := gB_at ex1_10 hm
      refine lv_iinc (v := x1_10) (lv' := [(1, .int x1_10), (0, .ref a0), (2, .int x2_5), (3, .int x3_6)]) hx hb d_Mo_orderByNear_83 hl (k := 1) rfl (by rw [ex1_10]; rfl) (by decide) rfl (fun ls hl => ?_)
      refine lv_goto (tgt := 2) hx hb d_Mo_orderByNear_86 (by decide) ?_
      exact ih_2 _ hm _ _ _ rfl ls H locs (lv_sub hl [1, 0] rfl) hP hD hS
    · have hm := ite_f c_7 hm
      refine lv_aload_n hx hb d_Mo_orderByNear_22 rfl (lv_at hl 0 rfl) ?_
      refine va_get (D := (dC, dI)) (ci := 8) (v := .ref a0_isOut) (C := R_Mo) (T := T_Mo) (N := 28) hx hb htt hin_Mo hown hK hP 0 rfl rfl 27 (by decide) (htt _ kt_796) (fun _ h9 => h9) rfl d_Mo_orderByNear_23 ?_
      refine lv_iload_n hx hb d_Mo_orderByNear_26 rfl (lv_at hl 3 rfl) ?_
      obtain ⟨hi_11, hm⟩ := gC_e hm
      refine va_zald hx hb hK hP 3 3 rfl rfl (inb_vp hi_11) d_Mo_orderByNear_27 ?_
      refine lv_if_ne (tgt := 61) hx hb d_Mo_orderByNear_28 (by decide) (fun c_12 => ?_) (fun c_12 => ?_)
      · have hm := ite_f c_12 hm
        refine lv_iload_n hx hb d_Mo_orderByNear_61 rfl (lv_at hl 2 rfl) ?_
        refine lv_istore_n (lv' := [(2, .int x2_5), (0, .ref a0), (1, .int x1_1), (3, .int x3_6)]) hx hb d_Mo_orderByNear_62 rfl hl (by decide) rfl (fun ls hl => ?_)
        obtain ⟨x3_13, ex3_13⟩ : ∃ y : Int32, y = x3_6 + 1 := ⟨_, rfl⟩
        have hm := gB_at ex3_13 hm
        refine lv_iinc (v := x3_13) (lv' := [(3, .int x3_13), (2, .int x2_5), (0, .ref a0), (1, .int x1_1)]) hx hb d_Mo_orderByNear_63 hl (k := 3) rfl (by rw [ex3_13]; rfl) (by decide) rfl (fun ls hl => ?_)
        refine lv_goto (tgt := 14) hx hb d_Mo_orderByNear_66 (by decide) ?_
        exact ih_14 _ hm _ _ rfl ls H locs (lv_sub hl [2, 3, 1, 0] rfl) hP hD hS
      · have hm := ite_t c_12 hm
        refine lv_iload_n hx hb d_Mo_orderByNear_31 rfl (lv_at hl 2 rfl) ?_
        refine lv_iconst (v := (-1)) hx hb d_Mo_orderByNear_32 (by decide) ?_
        obtain ⟨J_57, hJ_57, hm⟩ := gB_x hm
        have jp_57 : ∀ (ls : Array Slot) (H : Heap) (locs : List Loc), J_57 = some (o_w0_order, o_w0_isOut) → lv_has ls 4 [(0, .ref a0), (1, .int x1_1), (3, .int x3_6)] → va_P (dC, dI) vwCl (wd_Mo_orderByNear cI cJ cG cZ a0 a0_from a0_to a0_near a0_lists a0_colours a0_shades a0_tints a0_attempt a0_taken a0_isApart a0_ways a0_next a0_splits a0_powers a0_row a0_many a0_can a0_could a0_arcRow a0_order a0_isOut v0_thrown v0_nodes v0_arcs v0_takenMany v0_leftBits v0_hasPolynomial v0_hasLists w0_near w0_order_2 w0_isOut_3) H → va_D A (wd_Mo_orderByNear cI cJ cG cZ a0 a0_from a0_to a0_near a0_lists a0_colours a0_shades a0_tints a0_attempt a0_taken a0_isApart a0_ways a0_next a0_splits a0_powers a0_row a0_many a0_can a0_could a0_arcRow a0_order a0_isOut v0_thrown v0_nodes v0_arcs v0_takenMany v0_leftBits v0_hasPolynomial v0_hasLists w0_near w0_order_2 w0_isOut_3) → va_S A s.heap H locs → W p l e (headSpec us_Mo_orderByNear rm_Mo_orderByNear).room s m ([.ref a0] : List Value).toArray below meth c H locs 0 0 (MQ below (va_Qv (fun (_ : Unit) => True) (fun _ t => PoS (dC, dI) (tyL cI cJ cG cZ) (wd_Mo_orderByNear cI cJ cG cZ a0 a0_from a0_to a0_near a0_lists a0_colours a0_shades a0_tints a0_attempt a0_taken a0_isApart a0_ways a0_next a0_splits a0_powers a0_row a0_many a0_can a0_could a0_arcRow a0_order a0_isOut v0_thrown v0_nodes v0_arcs v0_takenMany v0_leftBits v0_hasPolynomial v0_hasLists w0_near o_w0_order o_w0_isOut) A t) A) ([.ref a0] : List Value).toArray s 0 0 A) (F0 m 57 ls []) := by
          intro ls H locs hm hl hP hD hS
          have hm := jn0 hJ_57 hm
          refine lv_iload_n hx hb d_Mo_orderByNear_57 rfl (lv_at hl 2 rfl) ?_
          refine lv_goto (tgt := 62) hx hb d_Mo_orderByNear_58 (by decide) ?_
          refine lv_istore_n (lv' := [(2, .int x3_6), (0, .ref a0), (1, .int x1_1), (3, .int x3_6)]) hx hb d_Mo_orderByNear_62 rfl hl (by decide) rfl (fun ls hl => ?_)
          obtain ⟨x3_14, ex3_14⟩ : ∃ y : Int32, y = x3_6 + 1 := ⟨_, rfl⟩
          have hm := gB_at ex3_14 hm
          refine lv_iinc (v := x3_14) (lv' := [(3, .int x3_14), (2, .int x3_6), (0, .ref a0), (1, .int x1_1)]) hx hb d_Mo_orderByNear_63 hl (k := 3) rfl (by rw [ex3_14]; rfl) (by decide) rfl (fun ls hl => ?_)
          refine lv_goto (tgt := 14) hx hb d_Mo_orderByNear_66 (by decide) ?_
          exact ih_14 _ hm _ _ rfl ls H locs (lv_sub hl [2, 3, 1, 0] rfl) hP hD hS
        clear hJ_57
        refine lv_icmp_eq (tgt := 57) hx hb d_Mo_orderByNear_33 (by decide) (fun c_15 => ?_) (fun c_15 => ?_)
        · have hm := ite_t c_15 hm
          exact jp_57 ls H locs hm (lv_sub hl [0, 1, 3] rfl) hP hD hS
        · have hm := ite_f c_15 hm
          refine lv_aload_n hx hb d_Mo_orderByNear_36 rfl (lv_at hl 0 rfl) ?_
          refine va_get (D := (dC, dI)) (ci := 8) (v := .ref a0_near) (C := R_Mo) (T := T_Mo) (N := 28) hx hb htt hin_Mo hown hK hP 0 rfl rfl 5 (by decide) (htt _ kt_774) (fun _ h9 => h9) rfl d_Mo_orderByNear_37 ?_
          refine lv_iload_n hx hb d_Mo_orderByNear_40 rfl (lv_at hl 3 rfl) ?_
          obtain ⟨hi_16, hm⟩ := gC_e hm
          refine va_iald hx hb hK hP 1 0 rfl rfl (inb_vp hi_16) d_Mo_orderByNear_41 ?_
          obtain ⟨q_17, hc_18, hm⟩ := gM_e hm
          have hPc : va_P (dC, dI) vwCl (wd_Mo_count cI cJ cG cZ) H := hP.sub [] rfl
          have hDc : va_D A (wd_Mo_count cI cJ cG cZ) := hD.sub [] (by decide) rfl
          have hFc : ∀ q, va_A (wd_Mo_count cI cJ cG cZ) H.size q → A q := va_free hD hS hA [] rfl
          refine va_calli (va_runS (As := [.int (w0_near x3_6.toNatClampNeg)]) (rest := []) ⟨hx, hb, hml, hown, htt⟩ (c_Mo_count l dC dI cI cJ cG cZ H.size F (w0_near x3_6.toNatClampNeg) q_17 hc_18) (cwS 1 htt (gdS kt_972 kt_973 kt_10 kt_974) rfl rfl rfl (by decide +kernel) ⟨(Nat.le_of_ble_eq_true rfl), (Nat.le_of_ble_eq_true rfl)⟩) ⟨PcS_blind, PcS_in hPc hK hDc hNw⟩ rfl rfl hl.1 rfl (lv_room (Nat.le_of_ble_eq_true rfl)) d_Mo_orderByNear_42 ⟨Nat.zero_le _, Nat.zero_le _⟩) hS (fun q _ h => hFc q h) hFc (fun r_19 u t H1 locs ht hvm hw hB hz1 hk1 hS => ?_)
          obtain ⟨hP1, hK1, hD1⟩ := hB
          rw [ht] at hP1
          subst hw
          obtain ⟨hP, hD⟩ := va_join (wr := [(a0, .inr (8, [.int v0_thrown, .int v0_nodes, .int v0_arcs, .ref a0_from, .ref a0_to, .ref a0_near, .ref a0_lists, .ref a0_colours, .ref a0_shades, .ref a0_tints, .ref a0_attempt, .int v0_takenMany, .ref a0_taken, .int v0_leftBits, .ref a0_isApart, .ref a0_ways, .ref a0_next, .ref a0_splits, .ref a0_powers, .ref a0_row, .ref a0_many, .int v0_hasPolynomial, .int v0_hasLists, .ref a0_can, .ref a0_could, .ref a0_arcRow, .ref a0_order, .ref a0_isOut])), (a0_near, .inl (cI, 12, .inl w0_near)), (a0_order, .inl (cI, 12, .inl w0_order_2)), (a0_isOut, .inl (cZ, 12, .inl w0_isOut_3))]) (w1 := (wd_Mo_count cI cJ cG cZ)) hP hD [] [0, 1, 2, 3] rfl rfl (by decide) (by decide) hk1 hFc hP1 hD1
          have hP : va_P (dC, dI) vwCl (wd_Mo_orderByNear cI cJ cG cZ a0 a0_from a0_to a0_near a0_lists a0_colours a0_shades a0_tints a0_attempt a0_taken a0_isApart a0_ways a0_next a0_splits a0_powers a0_row a0_many a0_can a0_could a0_arcRow a0_order a0_isOut v0_thrown v0_nodes v0_arcs v0_takenMany v0_leftBits v0_hasPolynomial v0_hasLists w0_near w0_order_2 w0_isOut_3) H1 := hP.sub [0, 1, 2, 3] rfl
          have hD : va_D A (wd_Mo_orderByNear cI cJ cG cZ a0 a0_from a0_to a0_near a0_lists a0_colours a0_shades a0_tints a0_attempt a0_taken a0_isApart a0_ways a0_next a0_splits a0_powers a0_row a0_many a0_can a0_could a0_arcRow a0_order a0_isOut v0_thrown v0_nodes v0_arcs v0_takenMany v0_leftBits v0_hasPolynomial v0_hasLists w0_near w0_order_2 w0_isOut_3) := hD.sub [0, 1, 2, 3] (by decide) rfl
          clear hP1 hK1 hD1 hk1 hPc hDc hFc ht hvm hz1
          generalize H1 = H at hP hS ⊢
          refine lv_aload_n hx hb d_Mo_orderByNear_45 rfl (lv_at hl 0 rfl) ?_
          refine va_get (D := (dC, dI)) (ci := 8) (v := .ref a0_near) (C := R_Mo) (T := T_Mo) (N := 28) hx hb htt hin_Mo hown hK hP 0 rfl rfl 5 (by decide) (htt _ kt_774) (fun _ h9 => h9) rfl d_Mo_orderByNear_46 ?_
          refine lv_iload_n hx hb d_Mo_orderByNear_49 rfl (lv_at hl 2 rfl) ?_
          obtain ⟨hi_20, hm⟩ := gC_e hm
          refine va_iald hx hb hK hP 1 0 rfl rfl (inb_vp hi_20) d_Mo_orderByNear_50 ?_
          obtain ⟨q_21, hc_22, hm⟩ := gM_e hm
          have hPc : va_P (dC, dI) vwCl (wd_Mo_count cI cJ cG cZ) H := hP.sub [] rfl
          have hDc : va_D A (wd_Mo_count cI cJ cG cZ) := hD.sub [] (by decide) rfl
          have hFc : ∀ q, va_A (wd_Mo_count cI cJ cG cZ) H.size q → A q := va_free hD hS hA [] rfl
          refine va_calli (va_runS (As := [.int (w0_near x2_5.toNatClampNeg)]) (rest := [.int q_17]) ⟨hx, hb, hml, hown, htt⟩ (c_Mo_count l dC dI cI cJ cG cZ H.size F (w0_near x2_5.toNatClampNeg) q_21 hc_22) (cwS 1 htt (gdS kt_972 kt_973 kt_10 kt_974) rfl rfl rfl (by decide +kernel) ⟨(Nat.le_of_ble_eq_true rfl), (Nat.le_of_ble_eq_true rfl)⟩) ⟨PcS_blind, PcS_in hPc hK hDc hNw⟩ rfl rfl hl.1 rfl (lv_room (Nat.le_of_ble_eq_true rfl)) d_Mo_orderByNear_51 ⟨Nat.zero_le _, Nat.zero_le _⟩) hS (fun q _ h => hFc q h) hFc (fun r_23 u t H1 locs ht hvm hw hB hz1 hk1 hS => ?_)
          obtain ⟨hP1, hK1, hD1⟩ := hB
          rw [ht] at hP1
          subst hw
          obtain ⟨hP, hD⟩ := va_join (wr := [(a0, .inr (8, [.int v0_thrown, .int v0_nodes, .int v0_arcs, .ref a0_from, .ref a0_to, .ref a0_near, .ref a0_lists, .ref a0_colours, .ref a0_shades, .ref a0_tints, .ref a0_attempt, .int v0_takenMany, .ref a0_taken, .int v0_leftBits, .ref a0_isApart, .ref a0_ways, .ref a0_next, .ref a0_splits, .ref a0_powers, .ref a0_row, .ref a0_many, .int v0_hasPolynomial, .int v0_hasLists, .ref a0_can, .ref a0_could, .ref a0_arcRow, .ref a0_order, .ref a0_isOut])), (a0_near, .inl (cI, 12, .inl w0_near)), (a0_order, .inl (cI, 12, .inl w0_order_2)), (a0_isOut, .inl (cZ, 12, .inl w0_isOut_3))]) (w1 := (wd_Mo_count cI cJ cG cZ)) hP hD [] [0, 1, 2, 3] rfl rfl (by decide) (by decide) hk1 hFc hP1 hD1
          have hP : va_P (dC, dI) vwCl (wd_Mo_orderByNear cI cJ cG cZ a0 a0_from a0_to a0_near a0_lists a0_colours a0_shades a0_tints a0_attempt a0_taken a0_isApart a0_ways a0_next a0_splits a0_powers a0_row a0_many a0_can a0_could a0_arcRow a0_order a0_isOut v0_thrown v0_nodes v0_arcs v0_takenMany v0_leftBits v0_hasPolynomial v0_hasLists w0_near w0_order_2 w0_isOut_3) H1 := hP.sub [0, 1, 2, 3] rfl
          have hD : va_D A (wd_Mo_orderByNear cI cJ cG cZ a0 a0_from a0_to a0_near a0_lists a0_colours a0_shades a0_tints a0_attempt a0_taken a0_isApart a0_ways a0_next a0_splits a0_powers a0_row a0_many a0_can a0_could a0_arcRow a0_order a0_isOut v0_thrown v0_nodes v0_arcs v0_takenMany v0_leftBits v0_hasPolynomial v0_hasLists w0_near w0_order_2 w0_isOut_3) := hD.sub [0, 1, 2, 3] (by decide) rfl
          clear hP1 hK1 hD1 hk1 hPc hDc hFc ht hvm hz1
          generalize H1 = H at hP hS ⊢
          refine lv_icmp_le (tgt := 61) hx hb d_Mo_orderByNear_54 (by decide) (fun c_24 => ?_) (fun c_24 => ?_)
          · have hm := ite_t c_24 hm
            refine lv_iload_n hx hb d_Mo_orderByNear_61 rfl (lv_at hl 2 rfl) ?_
            refine lv_istore_n (lv' := [(2, .int x2_5), (0, .ref a0), (1, .int x1_1), (3, .int x3_6)]) hx hb d_Mo_orderByNear_62 rfl hl (by decide) rfl (fun ls hl => ?_)
            obtain ⟨x3_25, ex3_25⟩ : ∃ y : Int32, y = x3_6 + 1 := ⟨_, rfl⟩
            have hm := gB_at ex3_25 hm
            refine lv_iinc (v := x3_25) (lv' := [(3, .int x3_25), (2, .int x2_5), (0, .ref a0), (1, .int x1_1)]) hx hb d_Mo_orderByNear_63 hl (k := 3) rfl (by rw [ex3_25]; rfl) (by decide) rfl (fun ls hl => ?_)
            refine lv_goto (tgt := 14) hx hb d_Mo_orderByNear_66 (by decide) ?_
            exact ih_14 _ hm _ _ rfl ls H locs (lv_sub hl [2, 3, 1, 0] rfl) hP hD hS
          · have hm := ite_f c_24 hm
            exact jp_57 ls H locs hm (lv_sub hl [0, 1, 3] rfl) hP hD hS
theorem d_Mo_orderBackwards_0 : decode prog_10_method_41_code 0 = .ok (.iconst 1, 1) := by decide +kernel
theorem d_Mo_orderBackwards_1 : decode prog_10_method_41_code 1 = .ok (.aload_n 0, 1) := by decide +kernel
theorem d_Mo_orderBackwards_2 : decode prog_10_method_41_code 2 = .ok (.getfield 86, 3) := by decide +kernel
theorem d_Mo_orderBackwards_5 : decode prog_10_method_41_code 5 = .ok (.ishl, 1) := by decide +kernel
theorem d_Mo_orderBackwards_6 : decode prog_10_method_41_code 6 = .ok (.iconst 1, 1) := by decide +kernel
theorem d_Mo_orderBackwards_7 : decode prog_10_method_41_code 7 = .ok (.isub, 1) := by decide +kernel
theorem d_Mo_orderBackwards_8 : decode prog_10_method_41_code 8 = .ok (.istore_n 1, 1) := by decide +kernel
theorem d_Mo_orderBackwards_9 : decode prog_10_method_41_code 9 = .ok (.aload_n 0, 1) := by decide +kernel
theorem d_Mo_orderBackwards_10 : decode prog_10_method_41_code 10 = .ok (.getfield 86, 3) := by decide +kernel
theorem d_Mo_orderBackwards_13 : decode prog_10_method_41_code 13 = .ok (.iconst 1, 1) := by decide +kernel
theorem d_Mo_orderBackwards_14 : decode prog_10_method_41_code 14 = .ok (.isub, 1) := by decide +kernel
theorem d_Mo_orderBackwards_15 : decode prog_10_method_41_code 15 = .ok (.istore_n 2, 1) := by decide +kernel
theorem d_Mo_orderBackwards_16 : decode prog_10_method_41_code 16 = .ok (.iload_n 2, 1) := by decide +kernel
theorem d_Mo_orderBackwards_17 : decode prog_10_method_41_code 17 = .ok (.ifCond .lt 104, 3) := by decide +kernel
theorem d_Mo_orderBackwards_20 : decode prog_10_method_41_code 20 = .ok (.iconst (-1), 1) := by decide +kernel
theorem d_Mo_orderBackwards_21 : decode prog_10_method_41_code 21 = .ok (.istore_n 3, 1) := by decide +kernel
theorem d_Mo_orderBackwards_22 : decode prog_10_method_41_code 22 = .ok (.iconst 0, 1) := by decide +kernel
theorem d_Mo_orderBackwards_23 : decode prog_10_method_41_code 23 = .ok (.istore 4, 2) := by decide +kernel
theorem d_Mo_orderBackwards_25 : decode prog_10_method_41_code 25 = .ok (.iload 4, 2) := by decide +kernel
theorem d_Mo_orderBackwards_27 : decode prog_10_method_41_code 27 = .ok (.aload_n 0, 1) := by decide +kernel
theorem d_Mo_orderBackwards_28 : decode prog_10_method_41_code 28 = .ok (.getfield 86, 3) := by decide +kernel
theorem d_Mo_orderBackwards_31 : decode prog_10_method_41_code 31 = .ok (.if_icmp .ge 69, 3) := by decide +kernel
theorem d_Mo_orderBackwards_34 : decode prog_10_method_41_code 34 = .ok (.iload_n 1, 1) := by decide +kernel
theorem d_Mo_orderBackwards_35 : decode prog_10_method_41_code 35 = .ok (.iload 4, 2) := by decide +kernel
theorem d_Mo_orderBackwards_37 : decode prog_10_method_41_code 37 = .ok (.ishr, 1) := by decide +kernel
theorem d_Mo_orderBackwards_38 : decode prog_10_method_41_code 38 = .ok (.iconst 1, 1) := by decide +kernel
theorem d_Mo_orderBackwards_39 : decode prog_10_method_41_code 39 = .ok (.iand, 1) := by decide +kernel
theorem d_Mo_orderBackwards_40 : decode prog_10_method_41_code 40 = .ok (.iconst 1, 1) := by decide +kernel
theorem d_Mo_orderBackwards_41 : decode prog_10_method_41_code 41 = .ok (.if_icmp .ne 7, 3) := by decide +kernel
theorem d_Mo_orderBackwards_44 : decode prog_10_method_41_code 44 = .ok (.iconst 1, 1) := by decide +kernel
theorem d_Mo_orderBackwards_45 : decode prog_10_method_41_code 45 = .ok (.goto 4, 3) := by decide +kernel
theorem d_Mo_orderBackwards_48 : decode prog_10_method_41_code 48 = .ok (.iconst 0, 1) := by decide +kernel
theorem d_Mo_orderBackwards_49 : decode prog_10_method_41_code 49 = .ok (.istore 5, 2) := by decide +kernel
theorem d_Mo_orderBackwards_51 : decode prog_10_method_41_code 51 = .ok (.iload 5, 2) := by decide +kernel
theorem d_Mo_orderBackwards_53 : decode prog_10_method_41_code 53 = .ok (.ifCond .eq 39, 3) := by decide +kernel
theorem d_Mo_orderBackwards_56 : decode prog_10_method_41_code 56 = .ok (.iload_n 3, 1) := by decide +kernel
theorem d_Mo_orderBackwards_57 : decode prog_10_method_41_code 57 = .ok (.iconst (-1), 1) := by decide +kernel
theorem d_Mo_orderBackwards_58 : decode prog_10_method_41_code 58 = .ok (.if_icmp .eq 29, 3) := by decide +kernel
theorem d_Mo_orderBackwards_61 : decode prog_10_method_41_code 61 = .ok (.aload_n 0, 1) := by decide +kernel
theorem d_Mo_orderBackwards_62 : decode prog_10_method_41_code 62 = .ok (.getfield 16, 3) := by decide +kernel
theorem d_Mo_orderBackwards_65 : decode prog_10_method_41_code 65 = .ok (.iload 4, 2) := by decide +kernel
theorem d_Mo_orderBackwards_67 : decode prog_10_method_41_code 67 = .ok (.iaload, 1) := by decide +kernel
theorem d_Mo_orderBackwards_68 : decode prog_10_method_41_code 68 = .ok (.iload_n 1, 1) := by decide +kernel
theorem d_Mo_orderBackwards_69 : decode prog_10_method_41_code 69 = .ok (.iand, 1) := by decide +kernel
theorem d_Mo_orderBackwards_70 : decode prog_10_method_41_code 70 = .ok (.invokestatic 145, 3) := by decide +kernel
theorem d_Mo_orderBackwards_73 : decode prog_10_method_41_code 73 = .ok (.aload_n 0, 1) := by decide +kernel
theorem d_Mo_orderBackwards_74 : decode prog_10_method_41_code 74 = .ok (.getfield 16, 3) := by decide +kernel
theorem d_Mo_orderBackwards_77 : decode prog_10_method_41_code 77 = .ok (.iload_n 3, 1) := by decide +kernel
theorem d_Mo_orderBackwards_78 : decode prog_10_method_41_code 78 = .ok (.iaload, 1) := by decide +kernel
theorem d_Mo_orderBackwards_79 : decode prog_10_method_41_code 79 = .ok (.iload_n 1, 1) := by decide +kernel
theorem d_Mo_orderBackwards_80 : decode prog_10_method_41_code 80 = .ok (.iand, 1) := by decide +kernel
theorem d_Mo_orderBackwards_81 : decode prog_10_method_41_code 81 = .ok (.invokestatic 145, 3) := by decide +kernel
theorem d_Mo_orderBackwards_84 : decode prog_10_method_41_code 84 = .ok (.if_icmp .gt 8, 3) := by decide +kernel
theorem d_Mo_orderBackwards_87 : decode prog_10_method_41_code 87 = .ok (.iload 4, 2) := by decide +kernel
theorem d_Mo_orderBackwards_89 : decode prog_10_method_41_code 89 = .ok (.goto 4, 3) := by decide +kernel
theorem d_Mo_orderBackwards_92 : decode prog_10_method_41_code 92 = .ok (.iload_n 3, 1) := by decide +kernel
theorem d_Mo_orderBackwards_93 : decode prog_10_method_41_code 93 = .ok (.istore_n 3, 1) := by decide +kernel
theorem d_Mo_orderBackwards_94 : decode prog_10_method_41_code 94 = .ok (.iinc 4 1, 3) := by decide +kernel
theorem d_Mo_orderBackwards_97 : decode prog_10_method_41_code 97 = .ok (.goto (-72), 3) := by decide +kernel
theorem d_Mo_orderBackwards_100 : decode prog_10_method_41_code 100 = .ok (.iload_n 1, 1) := by decide +kernel
theorem d_Mo_orderBackwards_101 : decode prog_10_method_41_code 101 = .ok (.iconst 1, 1) := by decide +kernel
theorem d_Mo_orderBackwards_102 : decode prog_10_method_41_code 102 = .ok (.iload_n 3, 1) := by decide +kernel
theorem d_Mo_orderBackwards_103 : decode prog_10_method_41_code 103 = .ok (.ishl, 1) := by decide +kernel
theorem d_Mo_orderBackwards_104 : decode prog_10_method_41_code 104 = .ok (.iconst (-1), 1) := by decide +kernel
theorem d_Mo_orderBackwards_105 : decode prog_10_method_41_code 105 = .ok (.ixor, 1) := by decide +kernel
theorem d_Mo_orderBackwards_106 : decode prog_10_method_41_code 106 = .ok (.iand, 1) := by decide +kernel
theorem d_Mo_orderBackwards_107 : decode prog_10_method_41_code 107 = .ok (.istore_n 1, 1) := by decide +kernel
theorem d_Mo_orderBackwards_108 : decode prog_10_method_41_code 108 = .ok (.aload_n 0, 1) := by decide +kernel
theorem d_Mo_orderBackwards_109 : decode prog_10_method_41_code 109 = .ok (.getfield 70, 3) := by decide +kernel
theorem d_Mo_orderBackwards_112 : decode prog_10_method_41_code 112 = .ok (.iload_n 2, 1) := by decide +kernel
theorem d_Mo_orderBackwards_113 : decode prog_10_method_41_code 113 = .ok (.iload_n 3, 1) := by decide +kernel
theorem d_Mo_orderBackwards_114 : decode prog_10_method_41_code 114 = .ok (.iastore, 1) := by decide +kernel
theorem d_Mo_orderBackwards_115 : decode prog_10_method_41_code 115 = .ok (.iinc 2 (-1), 3) := by decide +kernel
theorem d_Mo_orderBackwards_118 : decode prog_10_method_41_code 118 = .ok (.goto (-102), 3) := by decide +kernel
theorem d_Mo_orderBackwards_121 : decode prog_10_method_41_code 121 = .ok (.return_, 1) := by decide +kernel
abbrev wd_Mo_orderBackwards (cI cJ cG cZ : ClassId) (a0 a0_from a0_to a0_near a0_lists a0_colours a0_shades a0_tints a0_attempt a0_taken a0_isApart a0_ways a0_next a0_splits a0_powers a0_row a0_many a0_can a0_could a0_arcRow a0_order a0_isOut : Nat) (v0_thrown : Int32) (v0_nodes : Int32) (v0_arcs : Int32) (v0_takenMany : Int32) (v0_leftBits : Int32) (v0_hasPolynomial : Int32) (v0_hasLists : Int32) (w0_near : Nat → Int32) (w0_order : Nat → Int32) : va_W := [(a0, .inr (8, [.int v0_thrown, .int v0_nodes, .int v0_arcs, .ref a0_from, .ref a0_to, .ref a0_near, .ref a0_lists, .ref a0_colours, .ref a0_shades, .ref a0_tints, .ref a0_attempt, .int v0_takenMany, .ref a0_taken, .int v0_leftBits, .ref a0_isApart, .ref a0_ways, .ref a0_next, .ref a0_splits, .ref a0_powers, .ref a0_row, .ref a0_many, .int v0_hasPolynomial, .int v0_hasLists, .ref a0_can, .ref a0_could, .ref a0_arcRow, .ref a0_order, .ref a0_isOut])), (a0_near, .inl (cI, 12, .inl w0_near)), (a0_order, .inl (cI, 12, .inl w0_order))]
abbrev us_Mo_orderBackwards : List Cond := .code y_Mo_orderBackwards prog_10_method_41_code 6 none :: gtbl
abbrev rm_Mo_orderBackwards : Room := { frames := 1, cells := 0, slots := 0, locals := 22 }
def m_Mo_orderBackwards (F : Nat) (v0_thrown : Int32) (v0_nodes : Int32) (v0_arcs : Int32) (v0_takenMany : Int32) (v0_leftBits : Int32) (v0_hasPolynomial : Int32) (v0_hasLists : Int32) (w0_near : Nat → Int32) (w0_order : Nat → Int32) : Option ((Nat → Int32)) :=
  gB (((1 : Int32) <<< (v0_nodes &&& 31)) - 1) (fun x1_1 =>
  gB (v0_nodes - 1) (fun x2_2 =>
  gL (fun (k_16 : (Int32 × Int32 × (Nat → Int32)) → Option ((Nat → Int32))) (z_16 : Int32 × Int32 × (Nat → Int32)) => match z_16 with
  | (x1_3, x2_4, w0_order_5) =>
  if x2_4 < 0 then (
    some w0_order_5
  ) else (
    gL (fun (k_25 : (Int32 × Int32) → Option ((Nat → Int32))) (z_25 : Int32 × Int32) => match z_25 with
    | (x3_7, x4_8) =>
    if v0_nodes ≤ x4_8 then (
      gB (x1_3 &&& (((1 : Int32) <<< (x3_7 &&& 31)) ^^^ (-1))) (fun x1_10 =>
      gC (inb x2_4 12) (
      gB (x2_4 + (-1)) (fun x2_12 =>
      k_16 (x1_10, x2_12, upd w0_order_5 x2_4.toNatClampNeg x3_7))))
    ) else (
      gB (α := Int32 → Option ((Nat → Int32))) (fun s_13 =>
        if s_13 = 0 then (
          gB (x4_8 + 1) (fun x4_15 =>
          k_25 (x3_7, x4_15))
        ) else (
          gB (α := Option ((Nat → Int32))) (
            gB (x4_8 + 1) (fun x4_16 =>
            k_25 (x4_8, x4_16))
          ) (fun J_87 =>
          if x3_7 = ((-1) : Int32) then (
            J_87
          ) else (
            gC (inb x4_8 12) (
            gM (m_Mo_count F ((w0_near x4_8.toNatClampNeg) &&& x1_3)) (fun q_19 =>
            gC (inb x3_7 12) (
            gM (m_Mo_count F ((w0_near x3_7.toNatClampNeg) &&& x1_3)) (fun q_23 =>
            if q_23 < q_19 then (
              gB (x4_8 + 1) (fun x4_27 =>
              k_25 (x3_7, x4_27))
            ) else (
              J_87
            )))))
          )
          )
        )
      ) (fun J_49 =>
      if ((x1_3 >>> (x4_8 &&& 31)) &&& 1) = (1 : Int32) then (
        J_49 1
      ) else (
        J_49 0
      )
      )
    )
    ) F ((-1), 0)
  )
  ) F (x1_1, x2_2, w0_order)))
set_option maxHeartbeats 4000000 in
set_option maxRecDepth 100000 in
theorem c_Mo_orderBackwards (l : Launch) (dC : Nat → ClassId) (dI : Nat → Nat → Nat) (cI cJ cG cZ : ClassId) (a0 a0_from a0_to a0_near a0_lists a0_colours a0_shades a0_tints a0_attempt a0_taken a0_isApart a0_ways a0_next a0_splits a0_powers a0_row a0_many a0_can a0_could a0_arcRow a0_order a0_isOut : Nat) (sz : Nat) (F : Nat) (v0_thrown : Int32) (v0_nodes : Int32) (v0_arcs : Int32) (v0_takenMany : Int32) (v0_leftBits : Int32) (v0_hasPolynomial : Int32) (v0_hasLists : Int32) (w0_near : Nat → Int32) (w0_order : Nat → Int32) (o_w0_order : Nat → Int32) (hm : m_Mo_orderBackwards F v0_thrown v0_nodes v0_arcs v0_takenMany v0_leftBits v0_hasPolynomial v0_hasLists w0_near w0_order = some o_w0_order) : Met l y_Mo_orderBackwards us_Mo_orderBackwards rm_Mo_orderBackwards (PcS (dC, dI) (tyL cI cJ cG cZ) [.ref a0] sz (wd_Mo_orderBackwards cI cJ cG cZ a0 a0_from a0_to a0_near a0_lists a0_colours a0_shades a0_tints a0_attempt a0_taken a0_isApart a0_ways a0_next a0_splits a0_powers a0_row a0_many a0_can a0_could a0_arcRow a0_order a0_isOut v0_thrown v0_nodes v0_arcs v0_takenMany v0_leftBits v0_hasPolynomial v0_hasLists w0_near w0_order)) (va_Qv (fun (_ : Unit) => True) (fun _ t => PoS (dC, dI) (tyL cI cJ cG cZ) (wd_Mo_orderBackwards cI cJ cG cZ a0 a0_from a0_to a0_near a0_lists a0_colours a0_shades a0_tints a0_attempt a0_taken a0_isApart a0_ways a0_next a0_splits a0_powers a0_row a0_many a0_can a0_could a0_arcRow a0_order a0_isOut v0_thrown v0_nodes v0_arcs v0_takenMany v0_leftBits v0_hasPolynomial v0_hasLists w0_near o_w0_order) (va_A (wd_Mo_orderBackwards cI cJ cG cZ a0 a0_from a0_to a0_near a0_lists a0_colours a0_shades a0_tints a0_attempt a0_taken a0_isApart a0_ways a0_next a0_splits a0_powers a0_row a0_many a0_can a0_could a0_arcRow a0_order a0_isOut v0_thrown v0_nodes v0_arcs v0_takenMany v0_leftBits v0_hasPolynomial v0_hasLists w0_near w0_order) sz) t) (va_A (wd_Mo_orderBackwards cI cJ cG cZ a0 a0_from a0_to a0_near a0_lists a0_colours a0_shades a0_tints a0_attempt a0_taken a0_isApart a0_ways a0_next a0_splits a0_powers a0_row a0_many a0_can a0_could a0_arcRow a0_order a0_isOut v0_thrown v0_nodes v0_arcs v0_takenMany v0_leftBits v0_hasPolynomial v0_hasLists w0_near w0_order) sz)) 0 0 (va_A (wd_Mo_orderBackwards cI cJ cG cZ a0 a0_from a0_to a0_near a0_lists a0_colours a0_shades a0_tints a0_attempt a0_taken a0_isApart a0_ways a0_next a0_splits a0_powers a0_row a0_many a0_can a0_could a0_arcRow a0_order a0_isOut v0_thrown v0_nodes v0_arcs v0_takenMany v0_leftBits v0_hasPolynomial v0_hasLists w0_near w0_order) sz) := by
  refine Met.ofW (cc := prog_10_method_41_code) (maxL := 6) (ret := none) (by decide) rfl ?_
  intro p e s m args below meth c s₁ B hml hv
  obtain ⟨rfl, hsz, hP, hK, hD0, hNw⟩ := hv
  have hx := B.exec
  have hb := B.bytes
  have hr := B.returns
  have htt : ∀ w ∈ gtbl, w.before _ s = true := fun w h => atoms_spec (ws := us_Mo_orderBackwards) B.pre w (List.mem_cons_of_mem _ h)
  have hown : s.vm.findClass R_Mo = some m.cls := findClass_of_methodNamed B.named
  have hlocks := B.notSynchronized
  subst hsz
  have hD := hD0.self (sz := s.heap.size)
  generalize hAe : va_A (wd_Mo_orderBackwards cI cJ cG cZ a0 a0_from a0_to a0_near a0_lists a0_colours a0_shades a0_tints a0_attempt a0_taken a0_isApart a0_ways a0_next a0_splits a0_powers a0_row a0_many a0_can a0_could a0_arcRow a0_order a0_isOut v0_thrown v0_nodes v0_arcs v0_takenMany v0_leftBits v0_hasPolynomial v0_hasLists w0_near w0_order) s.heap.size = A at hD ⊢
  have hA : ∀ q : Nat, s.heap.size ≤ q → A q := fun q h => by rw [← hAe]; exact Or.inr h
  clear hAe hD0
  have hS : va_S A s.heap s.heap [] := va_S.rf
  have hl := lv_entry ([.ref a0]) (n := 6) (Nat.le_of_ble_eq_true rfl)
  rw [lg_entry_eq]
  generalize (lg_sl ([.ref a0]) ++ List.replicate (6 - (lg_sl ([.ref a0])).length) Slot.unset).toArray = ls at hl ⊢
  have hl : lv_has ls 6 [(0, .ref a0)] := hl
  generalize hH : s.heap = H at hP ⊢
  have hS : va_S A s.heap H [] := hH ▸ hS
  generalize hLo : ([] : List Loc) = locs at hS ⊢
  clear hH hLo
  unfold m_Mo_orderBackwards at hm
  refine lv_iconst (v := 1) hx hb d_Mo_orderBackwards_0 (by decide) ?_
  refine lv_aload_n hx hb d_Mo_orderBackwards_1 rfl (lv_at hl 0 rfl) ?_
  refine va_get (D := (dC, dI)) (ci := 8) (v := .int v0_nodes) (C := R_Mo) (T := T_Mo) (N := 28) hx hb htt hin_Mo hown hK hP 0 rfl rfl 1 (by decide) (htt _ kt_770) (fun _ h9 => h9) rfl d_Mo_orderBackwards_2 ?_
  refine lv_ishl hx hb d_Mo_orderBackwards_5 ?_
  refine lv_iconst (v := 1) hx hb d_Mo_orderBackwards_6 (by decide) ?_
  refine lv_isub hx hb d_Mo_orderBackwards_7 ?_
  refine lv_topi (fun x1_1 ex1_1 => ?_)
  have hm := gB_at ex1_1 hm
  refine lv_istore_n (lv' := [(1, .int x1_1), (0, .ref a0)]) hx hb d_Mo_orderBackwards_8 rfl hl (by decide) rfl (fun ls hl => ?_)
  refine lv_aload_n hx hb d_Mo_orderBackwards_9 rfl (lv_at hl 1 rfl) ?_
  refine va_get (D := (dC, dI)) (ci := 8) (v := .int v0_nodes) (C := R_Mo) (T := T_Mo) (N := 28) hx hb htt hin_Mo hown hK hP 0 rfl rfl 1 (by decide) (htt _ kt_770) (fun _ h9 => h9) rfl d_Mo_orderBackwards_10 ?_
  refine lv_iconst (v := 1) hx hb d_Mo_orderBackwards_13 (by decide) ?_
  refine lv_isub hx hb d_Mo_orderBackwards_14 ?_
  refine lv_topi (fun x2_2 ex2_2 => ?_)
  have hm := gB_at ex2_2 hm
  refine lv_istore_n (lv' := [(2, .int x2_2), (1, .int x1_1), (0, .ref a0)]) hx hb d_Mo_orderBackwards_15 rfl hl (by decide) rfl (fun ls hl => ?_)
  refine gL_e (P := (fun (z_16 : Int32 × Int32 × (Nat → Int32)) => ∀ (x1_3 : Int32), ∀ (x2_4 : Int32), ∀ (w0_order_5 : Nat → Int32), z_16 = (x1_3, x2_4, w0_order_5) → ∀ (ls : Array Slot) (H : Heap) (locs : List Loc), lv_has ls 6 [(0, .ref a0), (1, .int x1_3), (2, .int x2_4)] → va_P (dC, dI) vwCl (wd_Mo_orderBackwards cI cJ cG cZ a0 a0_from a0_to a0_near a0_lists a0_colours a0_shades a0_tints a0_attempt a0_taken a0_isApart a0_ways a0_next a0_splits a0_powers a0_row a0_many a0_can a0_could a0_arcRow a0_order a0_isOut v0_thrown v0_nodes v0_arcs v0_takenMany v0_leftBits v0_hasPolynomial v0_hasLists w0_near w0_order_5) H → va_D A (wd_Mo_orderBackwards cI cJ cG cZ a0 a0_from a0_to a0_near a0_lists a0_colours a0_shades a0_tints a0_attempt a0_taken a0_isApart a0_ways a0_next a0_splits a0_powers a0_row a0_many a0_can a0_could a0_arcRow a0_order a0_isOut v0_thrown v0_nodes v0_arcs v0_takenMany v0_leftBits v0_hasPolynomial v0_hasLists w0_near w0_order_5) → va_S A s.heap H locs → W p l e (headSpec us_Mo_orderBackwards rm_Mo_orderBackwards).room s m ([.ref a0] : List Value).toArray below meth c H locs 0 0 (MQ below (va_Qv (fun (_ : Unit) => True) (fun _ t => PoS (dC, dI) (tyL cI cJ cG cZ) (wd_Mo_orderBackwards cI cJ cG cZ a0 a0_from a0_to a0_near a0_lists a0_colours a0_shades a0_tints a0_attempt a0_taken a0_isApart a0_ways a0_next a0_splits a0_powers a0_row a0_many a0_can a0_could a0_arcRow a0_order a0_isOut v0_thrown v0_nodes v0_arcs v0_takenMany v0_leftBits v0_hasPolynomial v0_hasLists w0_near o_w0_order) A t) A) ([.ref a0] : List Value).toArray s 0 0 A) (F0 m 16 ls []))) hm (fun k_16 z_16 ih_16 hm => ?_) _ _ _ rfl ls H locs (lv_sub hl [2, 1, 0] rfl) hP hD hS
  intro x1_3 x2_4 w0_order_5 hz ls H locs hl hP hD hS
  subst hz
  dsimp only at hm
  refine lv_iload_n hx hb d_Mo_orderBackwards_16 rfl (lv_at hl 2 rfl) ?_
  refine lv_if_lt (tgt := 121) hx hb d_Mo_orderBackwards_17 (by decide) (fun c_6 => ?_) (fun c_6 => ?_)
  · have hm := ite_t c_6 hm
    cases hm
    exact W.vret hx hb hr (fun t ht hW => ⟨⟨(), rfl, trivial, by rw [ht]; exact hP, va_K.moved hW.alike hK, hD⟩, hS.F ht⟩) hS.2.2 d_Mo_orderBackwards_121
  · have hm := ite_f c_6 hm
    refine lv_iconst (v := (-1)) hx hb d_Mo_orderBackwards_20 (by decide) ?_
    refine lv_istore_n (lv' := [(3, .int (-1)), (0, .ref a0), (1, .int x1_3), (2, .int x2_4)]) hx hb d_Mo_orderBackwards_21 rfl hl (by decide) rfl (fun ls hl => ?_)
    refine lv_iconst (v := 0) hx hb d_Mo_orderBackwards_22 (by decide) ?_
    refine lv_istore (lv' := [(4, .int 0), (3, .int (-1)), (0, .ref a0), (1, .int x1_3), (2, .int x2_4)]) hx hb d_Mo_orderBackwards_23 hl (by decide) rfl (fun ls hl => ?_)
    refine gL_e (P := (fun (z_25 : Int32 × Int32) => ∀ (x3_7 : Int32), ∀ (x4_8 : Int32), z_25 = (x3_7, x4_8) → ∀ (ls : Array Slot) (H : Heap) (locs : List Loc), lv_has ls 6 [(0, .ref a0), (1, .int x1_3), (2, .int x2_4), (3, .int x3_7), (4, .int x4_8)] → va_P (dC, dI) vwCl (wd_Mo_orderBackwards cI cJ cG cZ a0 a0_from a0_to a0_near a0_lists a0_colours a0_shades a0_tints a0_attempt a0_taken a0_isApart a0_ways a0_next a0_splits a0_powers a0_row a0_many a0_can a0_could a0_arcRow a0_order a0_isOut v0_thrown v0_nodes v0_arcs v0_takenMany v0_leftBits v0_hasPolynomial v0_hasLists w0_near w0_order_5) H → va_D A (wd_Mo_orderBackwards cI cJ cG cZ a0 a0_from a0_to a0_near a0_lists a0_colours a0_shades a0_tints a0_attempt a0_taken a0_isApart a0_ways a0_next a0_splits a0_powers a0_row a0_many a0_can a0_could a0_arcRow a0_order a0_isOut v0_thrown v0_nodes v0_arcs v0_takenMany v0_leftBits v0_hasPolynomial v0_hasLists w0_near w0_order_5) → va_S A s.heap H locs → W p l e (headSpec us_Mo_orderBackwards rm_Mo_orderBackwards).room s m ([.ref a0] : List Value).toArray below meth c H locs 0 0 (MQ below (va_Qv (fun (_ : Unit) => True) (fun _ t => PoS (dC, dI) (tyL cI cJ cG cZ) (wd_Mo_orderBackwards cI cJ cG cZ a0 a0_from a0_to a0_near a0_lists a0_colours a0_shades a0_tints a0_attempt a0_taken a0_isApart a0_ways a0_next a0_splits a0_powers a0_row a0_many a0_can a0_could a0_arcRow a0_order a0_isOut v0_thrown v0_nodes v0_arcs v0_takenMany v0_leftBits v0_hasPolynomial v0_hasLists w0_near o_w0_order) A t) A) ([.ref a0] : List Value).toArray s 0 0 A) (F0 m 25 ls []))) hm (fun k_25 z_25 ih_25 hm => ?_) _ _ rfl ls H locs (lv_sub hl [2, 3, 4, 1, 0] rfl) hP hD hS
    intro x3_7 x4_8 hz ls H locs hl hP hD hS
    subst hz
    dsimp only at hm
    refine lv_iload hx hb d_Mo_orderBackwards_25 (lv_at hl 4 rfl) ?_
    refine lv_aload_n hx hb d_Mo_orderBackwards_27 rfl (lv_at hl 0 rfl) ?_
    refine va_get (D := (dC, dI)) (ci := 8) (v := .int v0_nodes) (C := R_Mo) (T := T_Mo) (N := 28) hx hb htt hin_Mo hown hK hP 0 rfl rfl 1 (by decide) (htt _ kt_770) (fun _ h9 => h9) rfl d_Mo_orderBackwards_28 ?_
    refine lv_icmp_ge (tgt := 100) hx hb d_Mo_orderBackwards_31 (by decide) (fun c_9 => ?_) (fun c_9 => ?_)
    · have hm := ite_t c_9 hm
      refine lv_iload_n hx hb d_Mo_orderBackwards_100 rfl (lv_at hl 1 rfl) ?_
      refine lv_iconst (v := 1) hx hb d_Mo_orderBackwards_101 (by decide) ?_
      refine lv_iload_n hx hb d_Mo_orderBackwards_102 rfl (lv_at hl 3 rfl) ?_
      refine lv_ishl hx hb d_Mo_orderBackwards_103 ?_
      refine lv_iconst (v := (-1)) hx hb d_Mo_orderBackwards_104 (by decide) ?_
      refine lv_ixor hx hb d_Mo_orderBackwards_105 ?_
      refine lv_iand hx hb d_Mo_orderBackwards_106 ?_
      refine lv_topi (fun x1_10 ex1_10 => ?_)
      have hm := gB_at ex1_10 hm
      refine lv_istore_n (lv' := [(1, .int x1_10), (0, .ref a0), (2, .int x2_4), (3, .int x3_7), (4, .int x4_8)]) hx hb d_Mo_orderBackwards_107 rfl hl (by decide) rfl (fun ls hl => ?_)
      refine lv_aload_n hx hb d_Mo_orderBackwards_108 rfl (lv_at hl 1 rfl) ?_
      refine va_get (D := (dC, dI)) (ci := 8) (v := .ref a0_order) (C := R_Mo) (T := T_Mo) (N := 28) hx hb htt hin_Mo hown hK hP 0 rfl rfl 26 (by decide) (htt _ kt_795) (fun _ h9 => h9) rfl d_Mo_orderBackwards_109 ?_
      refine lv_iload_n hx hb d_Mo_orderBackwards_112 rfl (lv_at hl 2 rfl) ?_
      refine lv_iload_n hx hb d_Mo_orderBackwards_113 rfl (lv_at hl 3 rfl) ?_
      obtain ⟨hi_11, hm⟩ := gC_e hm
      refine va_iast hx hb hK hP hD hS 2 0 rfl rfl (inb_vp hi_11) d_Mo_orderBackwards_114 (fun H locs hP hD hS => ?_)
      have hP : va_P (dC, dI) vwCl (wd_Mo_orderBackwards cI cJ cG cZ a0 a0_from a0_to a0_near a0_lists a0_colours a0_shades a0_tints a0_attempt a0_taken a0_isApart a0_ways a0_next a0_splits a0_powers a0_row a0_many a0_can a0_could a0_arcRow a0_order a0_isOut v0_thrown v0_nodes v0_arcs v0_takenMany v0_leftBits v0_hasPolynomial v0_hasLists w0_near (upd w0_order_5 x2_4.toNatClampNeg x3_7)) H := hP
      have hD : va_D A (wd_Mo_orderBackwards cI cJ cG cZ a0 a0_from a0_to a0_near a0_lists a0_colours a0_shades a0_tints a0_attempt a0_taken a0_isApart a0_ways a0_next a0_splits a0_powers a0_row a0_many a0_can a0_could a0_arcRow a0_order a0_isOut v0_thrown v0_nodes v0_arcs v0_takenMany v0_leftBits v0_hasPolynomial v0_hasLists w0_near (upd w0_order_5 x2_4.toNatClampNeg x3_7)) := hD
      obtain ⟨x2_12, ex2_12⟩ : ∃ y : Int32, y = x2_4 + (-1) := ⟨_, rfl⟩
      have hm := gB_at ex2_12 hm
      refine lv_iinc (v := x2_12) (lv' := [(2, .int x2_12), (1, .int x1_10), (0, .ref a0), (3, .int x3_7), (4, .int x4_8)]) hx hb d_Mo_orderBackwards_115 hl (k := 2) rfl (by rw [ex2_12]; rfl) (by decide) rfl (fun ls hl => ?_)
      refine lv_goto (tgt := 16) hx hb d_Mo_orderBackwards_118 (by decide) ?_
      exact ih_16 _ hm _ _ _ rfl ls H locs (lv_sub hl [2, 1, 0] rfl) hP hD hS
    · have hm := ite_f c_9 hm
      refine lv_iload_n hx hb d_Mo_orderBackwards_34 rfl (lv_at hl 1 rfl) ?_
      refine lv_iload hx hb d_Mo_orderBackwards_35 (lv_at hl 4 rfl) ?_
      refine lv_ishr hx hb d_Mo_orderBackwards_37 ?_
      refine lv_iconst (v := 1) hx hb d_Mo_orderBackwards_38 (by decide) ?_
      refine lv_iand hx hb d_Mo_orderBackwards_39 ?_
      refine lv_iconst (v := 1) hx hb d_Mo_orderBackwards_40 (by decide) ?_
      obtain ⟨J_49, hJ_49, hm⟩ := gB_x hm
      have jp_49 : ∀ (s_13 : Int32) (ls : Array Slot) (H : Heap) (locs : List Loc), J_49 s_13 = some o_w0_order → lv_has ls 6 [(0, .ref a0), (1, .int x1_3), (2, .int x2_4), (3, .int x3_7), (4, .int x4_8)] → va_P (dC, dI) vwCl (wd_Mo_orderBackwards cI cJ cG cZ a0 a0_from a0_to a0_near a0_lists a0_colours a0_shades a0_tints a0_attempt a0_taken a0_isApart a0_ways a0_next a0_splits a0_powers a0_row a0_many a0_can a0_could a0_arcRow a0_order a0_isOut v0_thrown v0_nodes v0_arcs v0_takenMany v0_leftBits v0_hasPolynomial v0_hasLists w0_near w0_order_5) H → va_D A (wd_Mo_orderBackwards cI cJ cG cZ a0 a0_from a0_to a0_near a0_lists a0_colours a0_shades a0_tints a0_attempt a0_taken a0_isApart a0_ways a0_next a0_splits a0_powers a0_row a0_many a0_can a0_could a0_arcRow a0_order a0_isOut v0_thrown v0_nodes v0_arcs v0_takenMany v0_leftBits v0_hasPolynomial v0_hasLists w0_near w0_order_5) → va_S A s.heap H locs → W p l e (headSpec us_Mo_orderBackwards rm_Mo_orderBackwards).room s m ([.ref a0] : List Value).toArray below meth c H locs 0 0 (MQ below (va_Qv (fun (_ : Unit) => True) (fun _ t => PoS (dC, dI) (tyL cI cJ cG cZ) (wd_Mo_orderBackwards cI cJ cG cZ a0 a0_from a0_to a0_near a0_lists a0_colours a0_shades a0_tints a0_attempt a0_taken a0_isApart a0_ways a0_next a0_splits a0_powers a0_row a0_many a0_can a0_could a0_arcRow a0_order a0_isOut v0_thrown v0_nodes v0_arcs v0_takenMany v0_leftBits v0_hasPolynomial v0_hasLists w0_near o_w0_order) A t) A) ([.ref a0] : List Value).toArray s 0 0 A) (F0 m 49 ls [.int s_13]) := by
        intro s_13 ls H locs hm hl hP hD hS
        have hm := jn1 hJ_49 hm
        refine lv_istore (lv' := [(5, .int s_13), (0, .ref a0), (1, .int x1_3), (2, .int x2_4), (3, .int x3_7), (4, .int x4_8)]) hx hb d_Mo_orderBackwards_49 hl (by decide) rfl (fun ls hl => ?_)
        refine lv_iload hx hb d_Mo_orderBackwards_51 (lv_at hl 0 rfl) ?_
        refine lv_if_eq (tgt := 92) hx hb d_Mo_orderBackwards_53 (by decide) (fun c_14 => ?_) (fun c_14 => ?_)
        · have hm := ite_t c_14 hm
          refine lv_iload_n hx hb d_Mo_orderBackwards_92 rfl (lv_at hl 4 rfl) ?_
          refine lv_istore_n (lv' := [(3, .int x3_7), (5, .int s_13), (0, .ref a0), (1, .int x1_3), (2, .int x2_4), (4, .int x4_8)]) hx hb d_Mo_orderBackwards_93 rfl hl (by decide) rfl (fun ls hl => ?_)
          obtain ⟨x4_15, ex4_15⟩ : ∃ y : Int32, y = x4_8 + 1 := ⟨_, rfl⟩
          have hm := gB_at ex4_15 hm
          refine lv_iinc (v := x4_15) (lv' := [(4, .int x4_15), (3, .int x3_7), (5, .int s_13), (0, .ref a0), (1, .int x1_3), (2, .int x2_4)]) hx hb d_Mo_orderBackwards_94 hl (k := 5) rfl (by rw [ex4_15]; rfl) (by decide) rfl (fun ls hl => ?_)
          refine lv_goto (tgt := 25) hx hb d_Mo_orderBackwards_97 (by decide) ?_
          exact ih_25 _ hm _ _ rfl ls H locs (lv_sub hl [3, 4, 5, 1, 0] rfl) hP hD hS
        · have hm := ite_f c_14 hm
          refine lv_iload_n hx hb d_Mo_orderBackwards_56 rfl (lv_at hl 4 rfl) ?_
          refine lv_iconst (v := (-1)) hx hb d_Mo_orderBackwards_57 (by decide) ?_
          obtain ⟨J_87, hJ_87, hm⟩ := gB_x hm
          have jp_87 : ∀ (ls : Array Slot) (H : Heap) (locs : List Loc), J_87 = some o_w0_order → lv_has ls 6 [(0, .ref a0), (1, .int x1_3), (2, .int x2_4), (4, .int x4_8)] → va_P (dC, dI) vwCl (wd_Mo_orderBackwards cI cJ cG cZ a0 a0_from a0_to a0_near a0_lists a0_colours a0_shades a0_tints a0_attempt a0_taken a0_isApart a0_ways a0_next a0_splits a0_powers a0_row a0_many a0_can a0_could a0_arcRow a0_order a0_isOut v0_thrown v0_nodes v0_arcs v0_takenMany v0_leftBits v0_hasPolynomial v0_hasLists w0_near w0_order_5) H → va_D A (wd_Mo_orderBackwards cI cJ cG cZ a0 a0_from a0_to a0_near a0_lists a0_colours a0_shades a0_tints a0_attempt a0_taken a0_isApart a0_ways a0_next a0_splits a0_powers a0_row a0_many a0_can a0_could a0_arcRow a0_order a0_isOut v0_thrown v0_nodes v0_arcs v0_takenMany v0_leftBits v0_hasPolynomial v0_hasLists w0_near w0_order_5) → va_S A s.heap H locs → W p l e (headSpec us_Mo_orderBackwards rm_Mo_orderBackwards).room s m ([.ref a0] : List Value).toArray below meth c H locs 0 0 (MQ below (va_Qv (fun (_ : Unit) => True) (fun _ t => PoS (dC, dI) (tyL cI cJ cG cZ) (wd_Mo_orderBackwards cI cJ cG cZ a0 a0_from a0_to a0_near a0_lists a0_colours a0_shades a0_tints a0_attempt a0_taken a0_isApart a0_ways a0_next a0_splits a0_powers a0_row a0_many a0_can a0_could a0_arcRow a0_order a0_isOut v0_thrown v0_nodes v0_arcs v0_takenMany v0_leftBits v0_hasPolynomial v0_hasLists w0_near o_w0_order) A t) A) ([.ref a0] : List Value).toArray s 0 0 A) (F0 m 87 ls []) := by
            intro ls H locs hm hl hP hD hS
            have hm := jn0 hJ_87 hm
            refine lv_iload hx hb d_Mo_orderBackwards_87 (lv_at hl 3 rfl) ?_
            refine lv_goto (tgt := 93) hx hb d_Mo_orderBackwards_89 (by decide) ?_
            refine lv_istore_n (lv' := [(3, .int x4_8), (0, .ref a0), (1, .int x1_3), (2, .int x2_4), (4, .int x4_8)]) hx hb d_Mo_orderBackwards_93 rfl hl (by decide) rfl (fun ls hl => ?_)
            obtain ⟨x4_16, ex4_16⟩ : ∃ y : Int32, y = x4_8 + 1 := ⟨_, rfl⟩
            have hm := gB_at ex4_16 hm
            refine lv_iinc (v := x4_16) (lv' := [(4, .int x4_16), (3, .int x4_8), (0, .ref a0), (1, .int x1_3), (2, .int x2_4)]) hx hb d_Mo_orderBackwards_94 hl (k := 4) rfl (by rw [ex4_16]; rfl) (by decide) rfl (fun ls hl => ?_)
            refine lv_goto (tgt := 25) hx hb d_Mo_orderBackwards_97 (by decide) ?_
            exact ih_25 _ hm _ _ rfl ls H locs (lv_sub hl [2, 3, 4, 1, 0] rfl) hP hD hS
          clear hJ_87
          refine lv_icmp_eq (tgt := 87) hx hb d_Mo_orderBackwards_58 (by decide) (fun c_17 => ?_) (fun c_17 => ?_)
          · have hm := ite_t c_17 hm
            exact jp_87 ls H locs hm (lv_sub hl [1, 2, 3, 5] rfl) hP hD hS
          · have hm := ite_f c_17 hm
            refine lv_aload_n hx hb d_Mo_orderBackwards_61 rfl (lv_at hl 1 rfl) ?_
            refine va_get (D := (dC, dI)) (ci := 8) (v := .ref a0_near) (C := R_Mo) (T := T_Mo) (N := 28) hx hb htt hin_Mo hown hK hP 0 rfl rfl 5 (by decide) (htt _ kt_774) (fun _ h9 => h9) rfl d_Mo_orderBackwards_62 ?_
            refine lv_iload hx hb d_Mo_orderBackwards_65 (lv_at hl 5 rfl) ?_
            obtain ⟨hi_18, hm⟩ := gC_e hm
            refine va_iald hx hb hK hP 1 0 rfl rfl (inb_vp hi_18) d_Mo_orderBackwards_67 ?_
            refine lv_iload_n hx hb d_Mo_orderBackwards_68 rfl (lv_at hl 2 rfl) ?_
            refine lv_iand hx hb d_Mo_orderBackwards_69 ?_
            obtain ⟨q_19, hc_20, hm⟩ := gM_e hm
            have hPc : va_P (dC, dI) vwCl (wd_Mo_count cI cJ cG cZ) H := hP.sub [] rfl
            have hDc : va_D A (wd_Mo_count cI cJ cG cZ) := hD.sub [] (by decide) rfl
            have hFc : ∀ q, va_A (wd_Mo_count cI cJ cG cZ) H.size q → A q := va_free hD hS hA [] rfl
            refine va_calli (va_runS (As := [.int ((w0_near x4_8.toNatClampNeg) &&& x1_3)]) (rest := []) ⟨hx, hb, hml, hown, htt⟩ (c_Mo_count l dC dI cI cJ cG cZ H.size F ((w0_near x4_8.toNatClampNeg) &&& x1_3) q_19 hc_20) (cwS 1 htt (gdS kt_972 kt_973 kt_10 kt_974) rfl rfl rfl (by decide +kernel) ⟨(Nat.le_of_ble_eq_true rfl), (Nat.le_of_ble_eq_true rfl)⟩) ⟨PcS_blind, PcS_in hPc hK hDc hNw⟩ rfl rfl hl.1 rfl (lv_room (Nat.le_of_ble_eq_true rfl)) d_Mo_orderBackwards_70 ⟨Nat.zero_le _, Nat.zero_le _⟩) hS (fun q _ h => hFc q h) hFc (fun r_21 u t H1 locs ht hvm hw hB hz1 hk1 hS => ?_)
            obtain ⟨hP1, hK1, hD1⟩ := hB
            rw [ht] at hP1
            subst hw
            obtain ⟨hP, hD⟩ := va_join (wr := [(a0, .inr (8, [.int v0_thrown, .int v0_nodes, .int v0_arcs, .ref a0_from, .ref a0_to, .ref a0_near, .ref a0_lists, .ref a0_colours, .ref a0_shades, .ref a0_tints, .ref a0_attempt, .int v0_takenMany, .ref a0_taken, .int v0_leftBits, .ref a0_isApart, .ref a0_ways, .ref a0_next, .ref a0_splits, .ref a0_powers, .ref a0_row, .ref a0_many, .int v0_hasPolynomial, .int v0_hasLists, .ref a0_can, .ref a0_could, .ref a0_arcRow, .ref a0_order, .ref a0_isOut])), (a0_near, .inl (cI, 12, .inl w0_near)), (a0_order, .inl (cI, 12, .inl w0_order_5))]) (w1 := (wd_Mo_count cI cJ cG cZ)) hP hD [] [0, 1, 2] rfl rfl (by decide) (by decide) hk1 hFc hP1 hD1
            have hP : va_P (dC, dI) vwCl (wd_Mo_orderBackwards cI cJ cG cZ a0 a0_from a0_to a0_near a0_lists a0_colours a0_shades a0_tints a0_attempt a0_taken a0_isApart a0_ways a0_next a0_splits a0_powers a0_row a0_many a0_can a0_could a0_arcRow a0_order a0_isOut v0_thrown v0_nodes v0_arcs v0_takenMany v0_leftBits v0_hasPolynomial v0_hasLists w0_near w0_order_5) H1 := hP.sub [0, 1, 2] rfl
            have hD : va_D A (wd_Mo_orderBackwards cI cJ cG cZ a0 a0_from a0_to a0_near a0_lists a0_colours a0_shades a0_tints a0_attempt a0_taken a0_isApart a0_ways a0_next a0_splits a0_powers a0_row a0_many a0_can a0_could a0_arcRow a0_order a0_isOut v0_thrown v0_nodes v0_arcs v0_takenMany v0_leftBits v0_hasPolynomial v0_hasLists w0_near w0_order_5) := hD.sub [0, 1, 2] (by decide) rfl
            clear hP1 hK1 hD1 hk1 hPc hDc hFc ht hvm hz1
            generalize H1 = H at hP hS ⊢
            refine lv_aload_n hx hb d_Mo_orderBackwards_73 rfl (lv_at hl 1 rfl) ?_
            refine va_get (D := (dC, dI)) (ci := 8) (v := .ref a0_near) (C := R_Mo) (T := T_Mo) (N := 28) hx hb htt hin_Mo hown hK hP 0 rfl rfl 5 (by decide) (htt _ kt_774) (fun _ h9 => h9) rfl d_Mo_orderBackwards_74 ?_
            refine lv_iload_n hx hb d_Mo_orderBackwards_77 rfl (lv_at hl 4 rfl) ?_
            obtain ⟨hi_22, hm⟩ := gC_e hm
            refine va_iald hx hb hK hP 1 0 rfl rfl (inb_vp hi_22) d_Mo_orderBackwards_78 ?_
            refine lv_iload_n hx hb d_Mo_orderBackwards_79 rfl (lv_at hl 2 rfl) ?_
            refine lv_iand hx hb d_Mo_orderBackwards_80 ?_
            obtain ⟨q_23, hc_24, hm⟩ := gM_e hm
            have hPc : va_P (dC, dI) vwCl (wd_Mo_count cI cJ cG cZ) H := hP.sub [] rfl
            have hDc : va_D A (wd_Mo_count cI cJ cG cZ) := hD.sub [] (by decide) rfl
            have hFc : ∀ q, va_A (wd_Mo_count cI cJ cG cZ) H.size q → A q := va_free hD hS hA [] rfl
            refine va_calli (va_runS (As := [.int ((w0_near x3_7.toNatClampNeg) &&& x1_3)]) (rest := [.int q_19]) ⟨hx, hb, hml, hown, htt⟩ (c_Mo_count l dC dI cI cJ cG cZ H.size F ((w0_near x3_7.toNatClampNeg) &&& x1_3) q_23 hc_24) (cwS 1 htt (gdS kt_972 kt_973 kt_10 kt_974) rfl rfl rfl (by decide +kernel) ⟨(Nat.le_of_ble_eq_true rfl), (Nat.le_of_ble_eq_true rfl)⟩) ⟨PcS_blind, PcS_in hPc hK hDc hNw⟩ rfl rfl hl.1 rfl (lv_room (Nat.le_of_ble_eq_true rfl)) d_Mo_orderBackwards_81 ⟨Nat.zero_le _, Nat.zero_le _⟩) hS (fun q _ h => hFc q h) hFc (fun r_25 u t H1 locs ht hvm hw hB hz1 hk1 hS => ?_)
            obtain ⟨hP1, hK1, hD1⟩ := hB
            rw [ht] at hP1
            subst hw
            obtain ⟨hP, hD⟩ := va_join (wr := [(a0, .inr (8, [.int v0_thrown, .int v0_nodes, .int v0_arcs, .ref a0_from, .ref a0_to, .ref a0_near, .ref a0_lists, .ref a0_colours, .ref a0_shades, .ref a0_tints, .ref a0_attempt, .int v0_takenMany, .ref a0_taken, .int v0_leftBits, .ref a0_isApart, .ref a0_ways, .ref a0_next, .ref a0_splits, .ref a0_powers, .ref a0_row, .ref a0_many, .int v0_hasPolynomial, .int v0_hasLists, .ref a0_can, .ref a0_could, .ref a0_arcRow, .ref a0_order, .ref a0_isOut])), (a0_near, .inl (cI, 12, .inl w0_near)), (a0_order, .inl (cI, 12, .inl w0_order_5))]) (w1 := (wd_Mo_count cI cJ cG cZ)) hP hD [] [0, 1, 2] rfl rfl (by decide) (by decide) hk1 hFc hP1 hD1
            have hP : va_P (dC, dI) vwCl (wd_Mo_orderBackwards cI cJ cG cZ a0 a0_from a0_to a0_near a0_lists a0_colours a0_shades a0_tints a0_attempt a0_taken a0_isApart a0_ways a0_next a0_splits a0_powers a0_row a0_many a0_can a0_could a0_arcRow a0_order a0_isOut v0_thrown v0_nodes v0_arcs v0_takenMany v0_leftBits v0_hasPolynomial v0_hasLists w0_near w0_order_5) H1 := hP.sub [0, 1, 2] rfl
            have hD : va_D A (wd_Mo_orderBackwards cI cJ cG cZ a0 a0_from a0_to a0_near a0_lists a0_colours a0_shades a0_tints a0_attempt a0_taken a0_isApart a0_ways a0_next a0_splits a0_powers a0_row a0_many a0_can a0_could a0_arcRow a0_order a0_isOut v0_thrown v0_nodes v0_arcs v0_takenMany v0_leftBits v0_hasPolynomial v0_hasLists w0_near w0_order_5) := hD.sub [0, 1, 2] (by decide) rfl
            clear hP1 hK1 hD1 hk1 hPc hDc hFc ht hvm hz1
            generalize H1 = H at hP hS ⊢
            refine lv_icmp_gt (tgt := 92) hx hb d_Mo_orderBackwards_84 (by decide) (fun c_26 => ?_) (fun c_26 => ?_)
            · have hm := ite_t c_26 hm
              refine lv_iload_n hx hb d_Mo_orderBackwards_92 rfl (lv_at hl 4 rfl) ?_
              refine lv_istore_n (lv' := [(3, .int x3_7), (5, .int s_13), (0, .ref a0), (1, .int x1_3), (2, .int x2_4), (4, .int x4_8)]) hx hb d_Mo_orderBackwards_93 rfl hl (by decide) rfl (fun ls hl => ?_)
              obtain ⟨x4_27, ex4_27⟩ : ∃ y : Int32, y = x4_8 + 1 := ⟨_, rfl⟩
              have hm := gB_at ex4_27 hm
              refine lv_iinc (v := x4_27) (lv' := [(4, .int x4_27), (3, .int x3_7), (5, .int s_13), (0, .ref a0), (1, .int x1_3), (2, .int x2_4)]) hx hb d_Mo_orderBackwards_94 hl (k := 5) rfl (by rw [ex4_27]; rfl) (by decide) rfl (fun ls hl => ?_)
              refine lv_goto (tgt := 25) hx hb d_Mo_orderBackwards_97 (by decide) ?_
              exact ih_25 _ hm _ _ rfl ls H locs (lv_sub hl [3, 4, 5, 1, 0] rfl) hP hD hS
            · have hm := ite_f c_26 hm
              exact jp_87 ls H locs hm (lv_sub hl [1, 2, 3, 5] rfl) hP hD hS
      clear hJ_49
      refine lv_icmp_ne (tgt := 48) hx hb d_Mo_orderBackwards_41 (by decide) (fun c_28 => ?_) (fun c_28 => ?_)
      · have hm := ite_f c_28 hm
        refine lv_iconst (v := 0) hx hb d_Mo_orderBackwards_48 (by decide) ?_
        exact jp_49 _ ls H locs hm (lv_sub hl [0, 1, 2, 3, 4] rfl) hP hD hS
      · have hm := ite_t c_28 hm
        refine lv_iconst (v := 1) hx hb d_Mo_orderBackwards_44 (by decide) ?_
        refine lv_goto (tgt := 49) hx hb d_Mo_orderBackwards_45 (by decide) ?_
        exact jp_49 _ ls H locs hm (lv_sub hl [0, 1, 2, 3, 4] rfl) hP hD hS
theorem d_Mo_nextByColours_0 : decode prog_10_method_42_code 0 = .ok (.iconst (-1), 1) := by decide +kernel
theorem d_Mo_nextByColours_1 : decode prog_10_method_42_code 1 = .ok (.istore_n 1, 1) := by decide +kernel
theorem d_Mo_nextByColours_2 : decode prog_10_method_42_code 2 = .ok (.iconst 0, 1) := by decide +kernel
theorem d_Mo_nextByColours_3 : decode prog_10_method_42_code 3 = .ok (.istore_n 2, 1) := by decide +kernel
theorem d_Mo_nextByColours_4 : decode prog_10_method_42_code 4 = .ok (.iload_n 2, 1) := by decide +kernel
theorem d_Mo_nextByColours_5 : decode prog_10_method_42_code 5 = .ok (.aload_n 0, 1) := by decide +kernel
theorem d_Mo_nextByColours_6 : decode prog_10_method_42_code 6 = .ok (.getfield 86, 3) := by decide +kernel
theorem d_Mo_nextByColours_9 : decode prog_10_method_42_code 9 = .ok (.if_icmp .ge 89, 3) := by decide +kernel
theorem d_Mo_nextByColours_12 : decode prog_10_method_42_code 12 = .ok (.aload_n 0, 1) := by decide +kernel
theorem d_Mo_nextByColours_13 : decode prog_10_method_42_code 13 = .ok (.getfield 28, 3) := by decide +kernel
theorem d_Mo_nextByColours_16 : decode prog_10_method_42_code 16 = .ok (.iload_n 2, 1) := by decide +kernel
theorem d_Mo_nextByColours_17 : decode prog_10_method_42_code 17 = .ok (.iaload, 1) := by decide +kernel
theorem d_Mo_nextByColours_18 : decode prog_10_method_42_code 18 = .ok (.iconst (-1), 1) := by decide +kernel
theorem d_Mo_nextByColours_19 : decode prog_10_method_42_code 19 = .ok (.if_icmp .ne 73, 3) := by decide +kernel
theorem d_Mo_nextByColours_22 : decode prog_10_method_42_code 22 = .ok (.iload_n 1, 1) := by decide +kernel
theorem d_Mo_nextByColours_23 : decode prog_10_method_42_code 23 = .ok (.iconst (-1), 1) := by decide +kernel
theorem d_Mo_nextByColours_24 : decode prog_10_method_42_code 24 = .ok (.if_icmp .ne 7, 3) := by decide +kernel
theorem d_Mo_nextByColours_27 : decode prog_10_method_42_code 27 = .ok (.iconst 1, 1) := by decide +kernel
theorem d_Mo_nextByColours_28 : decode prog_10_method_42_code 28 = .ok (.goto 14, 3) := by decide +kernel
theorem d_Mo_nextByColours_31 : decode prog_10_method_42_code 31 = .ok (.aload_n 0, 1) := by decide +kernel
theorem d_Mo_nextByColours_32 : decode prog_10_method_42_code 32 = .ok (.iload_n 2, 1) := by decide +kernel
theorem d_Mo_nextByColours_33 : decode prog_10_method_42_code 33 = .ok (.invokevirtual 153, 3) := by decide +kernel
theorem d_Mo_nextByColours_36 : decode prog_10_method_42_code 36 = .ok (.aload_n 0, 1) := by decide +kernel
theorem d_Mo_nextByColours_37 : decode prog_10_method_42_code 37 = .ok (.iload_n 1, 1) := by decide +kernel
theorem d_Mo_nextByColours_38 : decode prog_10_method_42_code 38 = .ok (.invokevirtual 153, 3) := by decide +kernel
theorem d_Mo_nextByColours_41 : decode prog_10_method_42_code 41 = .ok (.isub, 1) := by decide +kernel
theorem d_Mo_nextByColours_42 : decode prog_10_method_42_code 42 = .ok (.istore_n 3, 1) := by decide +kernel
theorem d_Mo_nextByColours_43 : decode prog_10_method_42_code 43 = .ok (.iload_n 1, 1) := by decide +kernel
theorem d_Mo_nextByColours_44 : decode prog_10_method_42_code 44 = .ok (.iconst (-1), 1) := by decide +kernel
theorem d_Mo_nextByColours_45 : decode prog_10_method_42_code 45 = .ok (.if_icmp .ne 7, 3) := by decide +kernel
theorem d_Mo_nextByColours_48 : decode prog_10_method_42_code 48 = .ok (.iconst 1, 1) := by decide +kernel
theorem d_Mo_nextByColours_49 : decode prog_10_method_42_code 49 = .ok (.goto 22, 3) := by decide +kernel
theorem d_Mo_nextByColours_52 : decode prog_10_method_42_code 52 = .ok (.aload_n 0, 1) := by decide +kernel
theorem d_Mo_nextByColours_53 : decode prog_10_method_42_code 53 = .ok (.getfield 16, 3) := by decide +kernel
theorem d_Mo_nextByColours_56 : decode prog_10_method_42_code 56 = .ok (.iload_n 2, 1) := by decide +kernel
theorem d_Mo_nextByColours_57 : decode prog_10_method_42_code 57 = .ok (.iaload, 1) := by decide +kernel
theorem d_Mo_nextByColours_58 : decode prog_10_method_42_code 58 = .ok (.invokestatic 145, 3) := by decide +kernel
theorem d_Mo_nextByColours_61 : decode prog_10_method_42_code 61 = .ok (.aload_n 0, 1) := by decide +kernel
theorem d_Mo_nextByColours_62 : decode prog_10_method_42_code 62 = .ok (.getfield 16, 3) := by decide +kernel
theorem d_Mo_nextByColours_65 : decode prog_10_method_42_code 65 = .ok (.iload_n 1, 1) := by decide +kernel
theorem d_Mo_nextByColours_66 : decode prog_10_method_42_code 66 = .ok (.iaload, 1) := by decide +kernel
theorem d_Mo_nextByColours_67 : decode prog_10_method_42_code 67 = .ok (.invokestatic 145, 3) := by decide +kernel
theorem d_Mo_nextByColours_70 : decode prog_10_method_42_code 70 = .ok (.isub, 1) := by decide +kernel
theorem d_Mo_nextByColours_71 : decode prog_10_method_42_code 71 = .ok (.istore 4, 2) := by decide +kernel
theorem d_Mo_nextByColours_73 : decode prog_10_method_42_code 73 = .ok (.iload_n 3, 1) := by decide +kernel
theorem d_Mo_nextByColours_74 : decode prog_10_method_42_code 74 = .ok (.ifCond .gt 12, 3) := by decide +kernel
theorem d_Mo_nextByColours_77 : decode prog_10_method_42_code 77 = .ok (.iload_n 3, 1) := by decide +kernel
theorem d_Mo_nextByColours_78 : decode prog_10_method_42_code 78 = .ok (.ifCond .ne 12, 3) := by decide +kernel
theorem d_Mo_nextByColours_81 : decode prog_10_method_42_code 81 = .ok (.iload 4, 2) := by decide +kernel
theorem d_Mo_nextByColours_83 : decode prog_10_method_42_code 83 = .ok (.ifCond .le 7, 3) := by decide +kernel
theorem d_Mo_nextByColours_86 : decode prog_10_method_42_code 86 = .ok (.iload_n 2, 1) := by decide +kernel
theorem d_Mo_nextByColours_87 : decode prog_10_method_42_code 87 = .ok (.goto 4, 3) := by decide +kernel
theorem d_Mo_nextByColours_90 : decode prog_10_method_42_code 90 = .ok (.iload_n 1, 1) := by decide +kernel
theorem d_Mo_nextByColours_91 : decode prog_10_method_42_code 91 = .ok (.istore_n 1, 1) := by decide +kernel
theorem d_Mo_nextByColours_92 : decode prog_10_method_42_code 92 = .ok (.iinc 2 1, 3) := by decide +kernel
theorem d_Mo_nextByColours_95 : decode prog_10_method_42_code 95 = .ok (.goto (-91), 3) := by decide +kernel
theorem d_Mo_nextByColours_98 : decode prog_10_method_42_code 98 = .ok (.iload_n 1, 1) := by decide +kernel
theorem d_Mo_nextByColours_99 : decode prog_10_method_42_code 99 = .ok (.ireturn, 1) := by decide +kernel
abbrev wd_Mo_nextByColours (cI cJ cG cZ : ClassId) (a0 a0_from a0_to a0_near a0_lists a0_colours a0_shades a0_tints a0_attempt a0_taken a0_isApart a0_ways a0_next a0_splits a0_powers a0_row a0_many a0_can a0_could a0_arcRow a0_order a0_isOut : Nat) (v0_thrown : Int32) (v0_nodes : Int32) (v0_arcs : Int32) (v0_takenMany : Int32) (v0_leftBits : Int32) (v0_hasPolynomial : Int32) (v0_hasLists : Int32) (w0_near : Nat → Int32) (w0_tints : Nat → Int32) : va_W := [(a0, .inr (8, [.int v0_thrown, .int v0_nodes, .int v0_arcs, .ref a0_from, .ref a0_to, .ref a0_near, .ref a0_lists, .ref a0_colours, .ref a0_shades, .ref a0_tints, .ref a0_attempt, .int v0_takenMany, .ref a0_taken, .int v0_leftBits, .ref a0_isApart, .ref a0_ways, .ref a0_next, .ref a0_splits, .ref a0_powers, .ref a0_row, .ref a0_many, .int v0_hasPolynomial, .int v0_hasLists, .ref a0_can, .ref a0_could, .ref a0_arcRow, .ref a0_order, .ref a0_isOut])), (a0_near, .inl (cI, 12, .inl w0_near)), (a0_tints, .inl (cI, 12, .inl w0_tints))]
abbrev us_Mo_nextByColours : List Cond := .code y_Mo_nextByColours prog_10_method_42_code 5 (some .int) :: gtbl
abbrev rm_Mo_nextByColours : Room := { frames := 2, cells := 0, slots := 0, locals := 45 }
def m_Mo_nextByColours (F : Nat) (v0_thrown : Int32) (v0_nodes : Int32) (v0_arcs : Int32) (v0_takenMany : Int32) (v0_leftBits : Int32) (v0_hasPolynomial : Int32) (v0_hasLists : Int32) (w0_near : Nat → Int32) (w0_tints : Nat → Int32) : Option (Int32) :=
  gL (fun (k_4 : (Int32 × Int32) → Option (Int32)) (z_4 : Int32 × Int32) => match z_4 with
  | (x1_1, x2_2) =>
  if v0_nodes ≤ x2_2 then (
    some x1_1
  ) else (
    gC (inb x2_2 12) (
    if (w0_tints x2_2.toNatClampNeg) = ((-1) : Int32) then (
      gB (α := Int32 → Option (Int32)) (fun s_7 =>
        gB (α := Int32 → Option (Int32)) (fun s_8 =>
          gB (α := Option (Int32)) (
            gB (x2_2 + 1) (fun x2_9 =>
            k_4 (x2_2, x2_9))
          ) (fun J_86 =>
          if 0 < s_7 then (
            J_86
          ) else (
            if s_7 = 0 then (
              if s_8 ≤ 0 then (
                gB (x2_2 + 1) (fun x2_14 =>
                k_4 (x1_1, x2_14))
              ) else (
                J_86
              )
            ) else (
              gB (x2_2 + 1) (fun x2_12 =>
              k_4 (x1_1, x2_12))
            )
          )
          )
        ) (fun J_71 =>
        if x1_1 = ((-1) : Int32) then (
          J_71 1
        ) else (
          gC (inb x2_2 12) (
          gM (m_Mo_count F (w0_near x2_2.toNatClampNeg)) (fun q_17 =>
          gC (inb x1_1 12) (
          gM (m_Mo_count F (w0_near x1_1.toNatClampNeg)) (fun q_21 =>
          J_71 (q_17 - q_21)))))
        )
        )
      ) (fun J_42 =>
      if x1_1 = ((-1) : Int32) then (
        J_42 1
      ) else (
        gM (m_Mo_different F v0_thrown v0_nodes v0_arcs v0_takenMany v0_leftBits v0_hasPolynomial v0_hasLists w0_near w0_tints x2_2) (fun q_25 =>
        gM (m_Mo_different F v0_thrown v0_nodes v0_arcs v0_takenMany v0_leftBits v0_hasPolynomial v0_hasLists w0_near w0_tints x1_1) (fun q_28 =>
        J_42 (q_25 - q_28)))
      )
      )
    ) else (
      gB (x2_2 + 1) (fun x2_6 =>
      k_4 (x1_1, x2_6))
    ))
  )
  ) F ((-1), 0)
set_option maxHeartbeats 4000000 in
set_option maxRecDepth 100000 in
theorem c_Mo_nextByColours (l : Launch) (dC : Nat → ClassId) (dI : Nat → Nat → Nat) (cI cJ cG cZ : ClassId) (a0 a0_from a0_to a0_near a0_lists a0_colours a0_shades a0_tints a0_attempt a0_taken a0_isApart a0_ways a0_next a0_splits a0_powers a0_row a0_many a0_can a0_could a0_arcRow a0_order a0_isOut : Nat) (sz : Nat) (F : Nat) (v0_thrown : Int32) (v0_nodes : Int32) (v0_arcs : Int32) (v0_takenMany : Int32) (v0_leftBits : Int32) (v0_hasPolynomial : Int32) (v0_hasLists : Int32) (w0_near : Nat → Int32) (w0_tints : Nat → Int32) (ret : Int32) (hm : m_Mo_nextByColours F v0_thrown v0_nodes v0_arcs v0_takenMany v0_leftBits v0_hasPolynomial v0_hasLists w0_near w0_tints = some ret) : Met l y_Mo_nextByColours us_Mo_nextByColours rm_Mo_nextByColours (PcS (dC, dI) (tyL cI cJ cG cZ) [.ref a0] sz (wd_Mo_nextByColours cI cJ cG cZ a0 a0_from a0_to a0_near a0_lists a0_colours a0_shades a0_tints a0_attempt a0_taken a0_isApart a0_ways a0_next a0_splits a0_powers a0_row a0_many a0_can a0_could a0_arcRow a0_order a0_isOut v0_thrown v0_nodes v0_arcs v0_takenMany v0_leftBits v0_hasPolynomial v0_hasLists w0_near w0_tints)) (va_Qi (fun (r : Int32) (_ : Unit) => ret = r) (fun _ t => PoS (dC, dI) (tyL cI cJ cG cZ) (wd_Mo_nextByColours cI cJ cG cZ a0 a0_from a0_to a0_near a0_lists a0_colours a0_shades a0_tints a0_attempt a0_taken a0_isApart a0_ways a0_next a0_splits a0_powers a0_row a0_many a0_can a0_could a0_arcRow a0_order a0_isOut v0_thrown v0_nodes v0_arcs v0_takenMany v0_leftBits v0_hasPolynomial v0_hasLists w0_near w0_tints) (va_A (wd_Mo_nextByColours cI cJ cG cZ a0 a0_from a0_to a0_near a0_lists a0_colours a0_shades a0_tints a0_attempt a0_taken a0_isApart a0_ways a0_next a0_splits a0_powers a0_row a0_many a0_can a0_could a0_arcRow a0_order a0_isOut v0_thrown v0_nodes v0_arcs v0_takenMany v0_leftBits v0_hasPolynomial v0_hasLists w0_near w0_tints) sz) t) (va_A (wd_Mo_nextByColours cI cJ cG cZ a0 a0_from a0_to a0_near a0_lists a0_colours a0_shades a0_tints a0_attempt a0_taken a0_isApart a0_ways a0_next a0_splits a0_powers a0_row a0_many a0_can a0_could a0_arcRow a0_order a0_isOut v0_thrown v0_nodes v0_arcs v0_takenMany v0_leftBits v0_hasPolynomial v0_hasLists w0_near w0_tints) sz)) 0 0 (va_A (wd_Mo_nextByColours cI cJ cG cZ a0 a0_from a0_to a0_near a0_lists a0_colours a0_shades a0_tints a0_attempt a0_taken a0_isApart a0_ways a0_next a0_splits a0_powers a0_row a0_many a0_can a0_could a0_arcRow a0_order a0_isOut v0_thrown v0_nodes v0_arcs v0_takenMany v0_leftBits v0_hasPolynomial v0_hasLists w0_near w0_tints) sz) := by
  refine Met.ofW (cc := prog_10_method_42_code) (maxL := 5) (ret := (some .int)) (by decide) rfl ?_
  intro p e s m args below meth c s₁ B hml hv
  obtain ⟨rfl, hsz, hP, hK, hD0, hNw⟩ := hv
  have hx := B.exec
  have hb := B.bytes
  have hr := B.returns
  have htt : ∀ w ∈ gtbl, w.before _ s = true := fun w h => atoms_spec (ws := us_Mo_nextByColours) B.pre w (List.mem_cons_of_mem _ h)
  have hown : s.vm.findClass R_Mo = some m.cls := findClass_of_methodNamed B.named
  have hlocks := B.notSynchronized
  subst hsz
  have hD := hD0.self (sz := s.heap.size)
  generalize hAe : va_A (wd_Mo_nextByColours cI cJ cG cZ a0 a0_from a0_to a0_near a0_lists a0_colours a0_shades a0_tints a0_attempt a0_taken a0_isApart a0_ways a0_next a0_splits a0_powers a0_row a0_many a0_can a0_could a0_arcRow a0_order a0_isOut v0_thrown v0_nodes v0_arcs v0_takenMany v0_leftBits v0_hasPolynomial v0_hasLists w0_near w0_tints) s.heap.size = A at hD ⊢
  have hA : ∀ q : Nat, s.heap.size ≤ q → A q := fun q h => by rw [← hAe]; exact Or.inr h
  clear hAe hD0
  have hS : va_S A s.heap s.heap [] := va_S.rf
  have hl := lv_entry ([.ref a0]) (n := 5) (Nat.le_of_ble_eq_true rfl)
  rw [lg_entry_eq]
  generalize (lg_sl ([.ref a0]) ++ List.replicate (5 - (lg_sl ([.ref a0])).length) Slot.unset).toArray = ls at hl ⊢
  have hl : lv_has ls 5 [(0, .ref a0)] := hl
  generalize hH : s.heap = H at hP ⊢
  have hS : va_S A s.heap H [] := hH ▸ hS
  generalize hLo : ([] : List Loc) = locs at hS ⊢
  clear hH hLo
  unfold m_Mo_nextByColours at hm
  refine lv_iconst (v := (-1)) hx hb d_Mo_nextByColours_0 (by decide) ?_
  refine lv_istore_n (lv' := [(1, .int (-1)), (0, .ref a0)]) hx hb d_Mo_nextByColours_1 rfl hl (by decide) rfl (fun ls hl => ?_)
  refine lv_iconst (v := 0) hx hb d_Mo_nextByColours_2 (by decide) ?_
  refine lv_istore_n (lv' := [(2, .int 0), (1, .int (-1)), (0, .ref a0)]) hx hb d_Mo_nextByColours_3 rfl hl (by decide) rfl (fun ls hl => ?_)
  refine gL_e (P := (fun (z_4 : Int32 × Int32) => ∀ (x1_1 : Int32), ∀ (x2_2 : Int32), z_4 = (x1_1, x2_2) → ∀ (ls : Array Slot) (H : Heap) (locs : List Loc), lv_has ls 5 [(0, .ref a0), (1, .int x1_1), (2, .int x2_2)] → va_P (dC, dI) vwCl (wd_Mo_nextByColours cI cJ cG cZ a0 a0_from a0_to a0_near a0_lists a0_colours a0_shades a0_tints a0_attempt a0_taken a0_isApart a0_ways a0_next a0_splits a0_powers a0_row a0_many a0_can a0_could a0_arcRow a0_order a0_isOut v0_thrown v0_nodes v0_arcs v0_takenMany v0_leftBits v0_hasPolynomial v0_hasLists w0_near w0_tints) H → va_D A (wd_Mo_nextByColours cI cJ cG cZ a0 a0_from a0_to a0_near a0_lists a0_colours a0_shades a0_tints a0_attempt a0_taken a0_isApart a0_ways a0_next a0_splits a0_powers a0_row a0_many a0_can a0_could a0_arcRow a0_order a0_isOut v0_thrown v0_nodes v0_arcs v0_takenMany v0_leftBits v0_hasPolynomial v0_hasLists w0_near w0_tints) → va_S A s.heap H locs → W p l e (headSpec us_Mo_nextByColours rm_Mo_nextByColours).room s m ([.ref a0] : List Value).toArray below meth c H locs 0 0 (MQ below (va_Qi (fun (r : Int32) (_ : Unit) => ret = r) (fun _ t => PoS (dC, dI) (tyL cI cJ cG cZ) (wd_Mo_nextByColours cI cJ cG cZ a0 a0_from a0_to a0_near a0_lists a0_colours a0_shades a0_tints a0_attempt a0_taken a0_isApart a0_ways a0_next a0_splits a0_powers a0_row a0_many a0_can a0_could a0_arcRow a0_order a0_isOut v0_thrown v0_nodes v0_arcs v0_takenMany v0_leftBits v0_hasPolynomial v0_hasLists w0_near w0_tints) A t) A) ([.ref a0] : List Value).toArray s 0 0 A) (F0 m 4 ls []))) hm (fun k_4 z_4 ih_4 hm => ?_) _ _ rfl ls H locs (lv_sub hl [2, 1, 0] rfl) hP hD hS
  intro x1_1 x2_2 hz ls H locs hl hP hD hS
  subst hz
  dsimp only at hm
  refine lv_iload_n hx hb d_Mo_nextByColours_4 rfl (lv_at hl 2 rfl) ?_
  refine lv_aload_n hx hb d_Mo_nextByColours_5 rfl (lv_at hl 0 rfl) ?_
  refine va_get (D := (dC, dI)) (ci := 8) (v := .int v0_nodes) (C := R_Mo) (T := T_Mo) (N := 28) hx hb htt hin_Mo hown hK hP 0 rfl rfl 1 (by decide) (htt _ kt_770) (fun _ h9 => h9) rfl d_Mo_nextByColours_6 ?_
  refine lv_icmp_ge (tgt := 98) hx hb d_Mo_nextByColours_9 (by decide) (fun c_3 => ?_) (fun c_3 => ?_)
  · have hm := ite_t c_3 hm
    refine lv_iload_n hx hb d_Mo_nextByColours_98 rfl (lv_at hl 1 rfl) ?_
    cases hm
    exact W.iret hx hb hr (fun t ht hW => ⟨⟨_, (), rfl, rfl, by rw [ht]; exact hP, va_K.moved hW.alike hK, hD⟩, hS.F ht⟩) hS.2.2 d_Mo_nextByColours_99
  · have hm := ite_f c_3 hm
    refine lv_aload_n hx hb d_Mo_nextByColours_12 rfl (lv_at hl 0 rfl) ?_
    refine va_get (D := (dC, dI)) (ci := 8) (v := .ref a0_tints) (C := R_Mo) (T := T_Mo) (N := 28) hx hb htt hin_Mo hown hK hP 0 rfl rfl 9 (by decide) (htt _ kt_778) (fun _ h9 => h9) rfl d_Mo_nextByColours_13 ?_
    refine lv_iload_n hx hb d_Mo_nextByColours_16 rfl (lv_at hl 2 rfl) ?_
    obtain ⟨hi_4, hm⟩ := gC_e hm
    refine va_iald hx hb hK hP 2 0 rfl rfl (inb_vp hi_4) d_Mo_nextByColours_17 ?_
    refine lv_iconst (v := (-1)) hx hb d_Mo_nextByColours_18 (by decide) ?_
    refine lv_icmp_ne (tgt := 92) hx hb d_Mo_nextByColours_19 (by decide) (fun c_5 => ?_) (fun c_5 => ?_)
    · have hm := ite_f c_5 hm
      obtain ⟨x2_6, ex2_6⟩ : ∃ y : Int32, y = x2_2 + 1 := ⟨_, rfl⟩
      have hm := gB_at ex2_6 hm
      refine lv_iinc (v := x2_6) (lv' := [(2, .int x2_6), (0, .ref a0), (1, .int x1_1)]) hx hb d_Mo_nextByColours_92 hl (k := 2) rfl (by rw [ex2_6]; rfl) (by decide) rfl (fun ls hl => ?_)
      refine lv_goto (tgt := 4) hx hb d_Mo_nextByColours_95 (by decide) ?_
      exact ih_4 _ hm _ _ rfl ls H locs (lv_sub hl [1, 2, 0] rfl) hP hD hS
    · have hm := ite_t c_5 hm
      refine lv_iload_n hx hb d_Mo_nextByColours_22 rfl (lv_at hl 1 rfl) ?_
      refine lv_iconst (v := (-1)) hx hb d_Mo_nextByColours_23 (by decide) ?_
      obtain ⟨J_42, hJ_42, hm⟩ := gB_x hm
      have jp_42 : ∀ (s_7 : Int32) (ls : Array Slot) (H : Heap) (locs : List Loc), J_42 s_7 = some ret → lv_has ls 5 [(0, .ref a0), (1, .int x1_1), (2, .int x2_2)] → va_P (dC, dI) vwCl (wd_Mo_nextByColours cI cJ cG cZ a0 a0_from a0_to a0_near a0_lists a0_colours a0_shades a0_tints a0_attempt a0_taken a0_isApart a0_ways a0_next a0_splits a0_powers a0_row a0_many a0_can a0_could a0_arcRow a0_order a0_isOut v0_thrown v0_nodes v0_arcs v0_takenMany v0_leftBits v0_hasPolynomial v0_hasLists w0_near w0_tints) H → va_D A (wd_Mo_nextByColours cI cJ cG cZ a0 a0_from a0_to a0_near a0_lists a0_colours a0_shades a0_tints a0_attempt a0_taken a0_isApart a0_ways a0_next a0_splits a0_powers a0_row a0_many a0_can a0_could a0_arcRow a0_order a0_isOut v0_thrown v0_nodes v0_arcs v0_takenMany v0_leftBits v0_hasPolynomial v0_hasLists w0_near w0_tints) → va_S A s.heap H locs → W p l e (headSpec us_Mo_nextByColours rm_Mo_nextByColours).room s m ([.ref a0] : List Value).toArray below meth c H locs 0 0 (MQ below (va_Qi (fun (r : Int32) (_ : Unit) => ret = r) (fun _ t => PoS (dC, dI) (tyL cI cJ cG cZ) (wd_Mo_nextByColours cI cJ cG cZ a0 a0_from a0_to a0_near a0_lists a0_colours a0_shades a0_tints a0_attempt a0_taken a0_isApart a0_ways a0_next a0_splits a0_powers a0_row a0_many a0_can a0_could a0_arcRow a0_order a0_isOut v0_thrown v0_nodes v0_arcs v0_takenMany v0_leftBits v0_hasPolynomial v0_hasLists w0_near w0_tints) A t) A) ([.ref a0] : List Value).toArray s 0 0 A) (F0 m 42 ls [.int s_7]) := by
        intro s_7 ls H locs hm hl hP hD hS
        have hm := jn1 hJ_42 hm
        refine lv_istore_n (lv' := [(3, .int s_7), (0, .ref a0), (1, .int x1_1), (2, .int x2_2)]) hx hb d_Mo_nextByColours_42 rfl hl (by decide) rfl (fun ls hl => ?_)
        refine lv_iload_n hx hb d_Mo_nextByColours_43 rfl (lv_at hl 2 rfl) ?_
        refine lv_iconst (v := (-1)) hx hb d_Mo_nextByColours_44 (by decide) ?_
        obtain ⟨J_71, hJ_71, hm⟩ := gB_x hm
        have jp_71 : ∀ (s_8 : Int32) (ls : Array Slot) (H : Heap) (locs : List Loc), J_71 s_8 = some ret → lv_has ls 5 [(0, .ref a0), (1, .int x1_1), (2, .int x2_2), (3, .int s_7)] → va_P (dC, dI) vwCl (wd_Mo_nextByColours cI cJ cG cZ a0 a0_from a0_to a0_near a0_lists a0_colours a0_shades a0_tints a0_attempt a0_taken a0_isApart a0_ways a0_next a0_splits a0_powers a0_row a0_many a0_can a0_could a0_arcRow a0_order a0_isOut v0_thrown v0_nodes v0_arcs v0_takenMany v0_leftBits v0_hasPolynomial v0_hasLists w0_near w0_tints) H → va_D A (wd_Mo_nextByColours cI cJ cG cZ a0 a0_from a0_to a0_near a0_lists a0_colours a0_shades a0_tints a0_attempt a0_taken a0_isApart a0_ways a0_next a0_splits a0_powers a0_row a0_many a0_can a0_could a0_arcRow a0_order a0_isOut v0_thrown v0_nodes v0_arcs v0_takenMany v0_leftBits v0_hasPolynomial v0_hasLists w0_near w0_tints) → va_S A s.heap H locs → W p l e (headSpec us_Mo_nextByColours rm_Mo_nextByColours).room s m ([.ref a0] : List Value).toArray below meth c H locs 0 0 (MQ below (va_Qi (fun (r : Int32) (_ : Unit) => ret = r) (fun _ t => PoS (dC, dI) (tyL cI cJ cG cZ) (wd_Mo_nextByColours cI cJ cG cZ a0 a0_from a0_to a0_near a0_lists a0_colours a0_shades a0_tints a0_attempt a0_taken a0_isApart a0_ways a0_next a0_splits a0_powers a0_row a0_many a0_can a0_could a0_arcRow a0_order a0_isOut v0_thrown v0_nodes v0_arcs v0_takenMany v0_leftBits v0_hasPolynomial v0_hasLists w0_near w0_tints) A t) A) ([.ref a0] : List Value).toArray s 0 0 A) (F0 m 71 ls [.int s_8]) := by
          intro s_8 ls H locs hm hl hP hD hS
          have hm := jn1 hJ_71 hm
          refine lv_istore (lv' := [(4, .int s_8), (0, .ref a0), (1, .int x1_1), (2, .int x2_2), (3, .int s_7)]) hx hb d_Mo_nextByColours_71 hl (by decide) rfl (fun ls hl => ?_)
          refine lv_iload_n hx hb d_Mo_nextByColours_73 rfl (lv_at hl 4 rfl) ?_
          obtain ⟨J_86, hJ_86, hm⟩ := gB_x hm
          have jp_86 : ∀ (ls : Array Slot) (H : Heap) (locs : List Loc), J_86 = some ret → lv_has ls 5 [(0, .ref a0), (2, .int x2_2)] → va_P (dC, dI) vwCl (wd_Mo_nextByColours cI cJ cG cZ a0 a0_from a0_to a0_near a0_lists a0_colours a0_shades a0_tints a0_attempt a0_taken a0_isApart a0_ways a0_next a0_splits a0_powers a0_row a0_many a0_can a0_could a0_arcRow a0_order a0_isOut v0_thrown v0_nodes v0_arcs v0_takenMany v0_leftBits v0_hasPolynomial v0_hasLists w0_near w0_tints) H → va_D A (wd_Mo_nextByColours cI cJ cG cZ a0 a0_from a0_to a0_near a0_lists a0_colours a0_shades a0_tints a0_attempt a0_taken a0_isApart a0_ways a0_next a0_splits a0_powers a0_row a0_many a0_can a0_could a0_arcRow a0_order a0_isOut v0_thrown v0_nodes v0_arcs v0_takenMany v0_leftBits v0_hasPolynomial v0_hasLists w0_near w0_tints) → va_S A s.heap H locs → W p l e (headSpec us_Mo_nextByColours rm_Mo_nextByColours).room s m ([.ref a0] : List Value).toArray below meth c H locs 0 0 (MQ below (va_Qi (fun (r : Int32) (_ : Unit) => ret = r) (fun _ t => PoS (dC, dI) (tyL cI cJ cG cZ) (wd_Mo_nextByColours cI cJ cG cZ a0 a0_from a0_to a0_near a0_lists a0_colours a0_shades a0_tints a0_attempt a0_taken a0_isApart a0_ways a0_next a0_splits a0_powers a0_row a0_many a0_can a0_could a0_arcRow a0_order a0_isOut v0_thrown v0_nodes v0_arcs v0_takenMany v0_leftBits v0_hasPolynomial v0_hasLists w0_near w0_tints) A t) A) ([.ref a0] : List Value).toArray s 0 0 A) (F0 m 86 ls []) := by
            intro ls H locs hm hl hP hD hS
            have hm := jn0 hJ_86 hm
            refine lv_iload_n hx hb d_Mo_nextByColours_86 rfl (lv_at hl 1 rfl) ?_
            refine lv_goto (tgt := 91) hx hb d_Mo_nextByColours_87 (by decide) ?_
            refine lv_istore_n (lv' := [(1, .int x2_2), (0, .ref a0), (2, .int x2_2)]) hx hb d_Mo_nextByColours_91 rfl hl (by decide) rfl (fun ls hl => ?_)
            obtain ⟨x2_9, ex2_9⟩ : ∃ y : Int32, y = x2_2 + 1 := ⟨_, rfl⟩
            have hm := gB_at ex2_9 hm
            refine lv_iinc (v := x2_9) (lv' := [(2, .int x2_9), (1, .int x2_2), (0, .ref a0)]) hx hb d_Mo_nextByColours_92 hl (k := 2) rfl (by rw [ex2_9]; rfl) (by decide) rfl (fun ls hl => ?_)
            refine lv_goto (tgt := 4) hx hb d_Mo_nextByColours_95 (by decide) ?_
            exact ih_4 _ hm _ _ rfl ls H locs (lv_sub hl [2, 1, 0] rfl) hP hD hS
          clear hJ_86
          refine lv_if_gt (tgt := 86) hx hb d_Mo_nextByColours_74 (by decide) (fun c_10 => ?_) (fun c_10 => ?_)
          · have hm := ite_t c_10 hm
            exact jp_86 ls H locs hm (lv_sub hl [1, 3] rfl) hP hD hS
          · have hm := ite_f c_10 hm
            refine lv_iload_n hx hb d_Mo_nextByColours_77 rfl (lv_at hl 4 rfl) ?_
            refine lv_if_ne (tgt := 90) hx hb d_Mo_nextByColours_78 (by decide) (fun c_11 => ?_) (fun c_11 => ?_)
            · have hm := ite_f c_11 hm
              refine lv_iload_n hx hb d_Mo_nextByColours_90 rfl (lv_at hl 2 rfl) ?_
              refine lv_istore_n (lv' := [(1, .int x1_1), (4, .int s_8), (0, .ref a0), (2, .int x2_2), (3, .int s_7)]) hx hb d_Mo_nextByColours_91 rfl hl (by decide) rfl (fun ls hl => ?_)
              obtain ⟨x2_12, ex2_12⟩ : ∃ y : Int32, y = x2_2 + 1 := ⟨_, rfl⟩
              have hm := gB_at ex2_12 hm
              refine lv_iinc (v := x2_12) (lv' := [(2, .int x2_12), (1, .int x1_1), (4, .int s_8), (0, .ref a0), (3, .int s_7)]) hx hb d_Mo_nextByColours_92 hl (k := 3) rfl (by rw [ex2_12]; rfl) (by decide) rfl (fun ls hl => ?_)
              refine lv_goto (tgt := 4) hx hb d_Mo_nextByColours_95 (by decide) ?_
              exact ih_4 _ hm _ _ rfl ls H locs (lv_sub hl [3, 1, 0] rfl) hP hD hS
            · have hm := ite_t c_11 hm
              refine lv_iload hx hb d_Mo_nextByColours_81 (lv_at hl 0 rfl) ?_
              refine lv_if_le (tgt := 90) hx hb d_Mo_nextByColours_83 (by decide) (fun c_13 => ?_) (fun c_13 => ?_)
              · have hm := ite_t c_13 hm
                refine lv_iload_n hx hb d_Mo_nextByColours_90 rfl (lv_at hl 2 rfl) ?_
                refine lv_istore_n (lv' := [(1, .int x1_1), (4, .int s_8), (0, .ref a0), (2, .int x2_2), (3, .int s_7)]) hx hb d_Mo_nextByColours_91 rfl hl (by decide) rfl (fun ls hl => ?_)
                obtain ⟨x2_14, ex2_14⟩ : ∃ y : Int32, y = x2_2 + 1 := ⟨_, rfl⟩
                have hm := gB_at ex2_14 hm
                refine lv_iinc (v := x2_14) (lv' := [(2, .int x2_14), (1, .int x1_1), (4, .int s_8), (0, .ref a0), (3, .int s_7)]) hx hb d_Mo_nextByColours_92 hl (k := 3) rfl (by rw [ex2_14]; rfl) (by decide) rfl (fun ls hl => ?_)
                refine lv_goto (tgt := 4) hx hb d_Mo_nextByColours_95 (by decide) ?_
                exact ih_4 _ hm _ _ rfl ls H locs (lv_sub hl [3, 1, 0] rfl) hP hD hS
              · have hm := ite_f c_13 hm
                exact jp_86 ls H locs hm (lv_sub hl [1, 3] rfl) hP hD hS
        clear hJ_71
        refine lv_icmp_ne (tgt := 52) hx hb d_Mo_nextByColours_45 (by decide) (fun c_15 => ?_) (fun c_15 => ?_)
        · have hm := ite_f c_15 hm
          refine lv_aload_n hx hb d_Mo_nextByColours_52 rfl (lv_at hl 1 rfl) ?_
          refine va_get (D := (dC, dI)) (ci := 8) (v := .ref a0_near) (C := R_Mo) (T := T_Mo) (N := 28) hx hb htt hin_Mo hown hK hP 0 rfl rfl 5 (by decide) (htt _ kt_774) (fun _ h9 => h9) rfl d_Mo_nextByColours_53 ?_
          refine lv_iload_n hx hb d_Mo_nextByColours_56 rfl (lv_at hl 3 rfl) ?_
          obtain ⟨hi_16, hm⟩ := gC_e hm
          refine va_iald hx hb hK hP 1 0 rfl rfl (inb_vp hi_16) d_Mo_nextByColours_57 ?_
          obtain ⟨q_17, hc_18, hm⟩ := gM_e hm
          have hPc : va_P (dC, dI) vwCl (wd_Mo_count cI cJ cG cZ) H := hP.sub [] rfl
          have hDc : va_D A (wd_Mo_count cI cJ cG cZ) := hD.sub [] (by decide) rfl
          have hFc : ∀ q, va_A (wd_Mo_count cI cJ cG cZ) H.size q → A q := va_free hD hS hA [] rfl
          refine va_calli (va_runS (As := [.int (w0_near x2_2.toNatClampNeg)]) (rest := []) ⟨hx, hb, hml, hown, htt⟩ (c_Mo_count l dC dI cI cJ cG cZ H.size F (w0_near x2_2.toNatClampNeg) q_17 hc_18) (cwS 1 htt (gdS kt_972 kt_973 kt_10 kt_974) rfl rfl rfl (by decide +kernel) ⟨(Nat.le_of_ble_eq_true rfl), (Nat.le_of_ble_eq_true rfl)⟩) ⟨PcS_blind, PcS_in hPc hK hDc hNw⟩ rfl rfl hl.1 rfl (lv_room (Nat.le_of_ble_eq_true rfl)) d_Mo_nextByColours_58 ⟨Nat.zero_le _, Nat.zero_le _⟩) hS (fun q _ h => hFc q h) hFc (fun r_19 u t H1 locs ht hvm hw hB hz1 hk1 hS => ?_)
          obtain ⟨hP1, hK1, hD1⟩ := hB
          rw [ht] at hP1
          subst hw
          obtain ⟨hP, hD⟩ := va_join (wr := [(a0, .inr (8, [.int v0_thrown, .int v0_nodes, .int v0_arcs, .ref a0_from, .ref a0_to, .ref a0_near, .ref a0_lists, .ref a0_colours, .ref a0_shades, .ref a0_tints, .ref a0_attempt, .int v0_takenMany, .ref a0_taken, .int v0_leftBits, .ref a0_isApart, .ref a0_ways, .ref a0_next, .ref a0_splits, .ref a0_powers, .ref a0_row, .ref a0_many, .int v0_hasPolynomial, .int v0_hasLists, .ref a0_can, .ref a0_could, .ref a0_arcRow, .ref a0_order, .ref a0_isOut])), (a0_near, .inl (cI, 12, .inl w0_near)), (a0_tints, .inl (cI, 12, .inl w0_tints))]) (w1 := (wd_Mo_count cI cJ cG cZ)) hP hD [] [0, 1, 2] rfl rfl (by decide) (by decide) hk1 hFc hP1 hD1
          have hP : va_P (dC, dI) vwCl (wd_Mo_nextByColours cI cJ cG cZ a0 a0_from a0_to a0_near a0_lists a0_colours a0_shades a0_tints a0_attempt a0_taken a0_isApart a0_ways a0_next a0_splits a0_powers a0_row a0_many a0_can a0_could a0_arcRow a0_order a0_isOut v0_thrown v0_nodes v0_arcs v0_takenMany v0_leftBits v0_hasPolynomial v0_hasLists w0_near w0_tints) H1 := hP.sub [0, 1, 2] rfl
          have hD : va_D A (wd_Mo_nextByColours cI cJ cG cZ a0 a0_from a0_to a0_near a0_lists a0_colours a0_shades a0_tints a0_attempt a0_taken a0_isApart a0_ways a0_next a0_splits a0_powers a0_row a0_many a0_can a0_could a0_arcRow a0_order a0_isOut v0_thrown v0_nodes v0_arcs v0_takenMany v0_leftBits v0_hasPolynomial v0_hasLists w0_near w0_tints) := hD.sub [0, 1, 2] (by decide) rfl
          clear hP1 hK1 hD1 hk1 hPc hDc hFc ht hvm hz1
          generalize H1 = H at hP hS ⊢
          refine lv_aload_n hx hb d_Mo_nextByColours_61 rfl (lv_at hl 1 rfl) ?_
          refine va_get (D := (dC, dI)) (ci := 8) (v := .ref a0_near) (C := R_Mo) (T := T_Mo) (N := 28) hx hb htt hin_Mo hown hK hP 0 rfl rfl 5 (by decide) (htt _ kt_774) (fun _ h9 => h9) rfl d_Mo_nextByColours_62 ?_
          refine lv_iload_n hx hb d_Mo_nextByColours_65 rfl (lv_at hl 2 rfl) ?_
          obtain ⟨hi_20, hm⟩ := gC_e hm
          refine va_iald hx hb hK hP 1 0 rfl rfl (inb_vp hi_20) d_Mo_nextByColours_66 ?_
          obtain ⟨q_21, hc_22, hm⟩ := gM_e hm
          have hPc : va_P (dC, dI) vwCl (wd_Mo_count cI cJ cG cZ) H := hP.sub [] rfl
          have hDc : va_D A (wd_Mo_count cI cJ cG cZ) := hD.sub [] (by decide) rfl
          have hFc : ∀ q, va_A (wd_Mo_count cI cJ cG cZ) H.size q → A q := va_free hD hS hA [] rfl
          refine va_calli (va_runS (As := [.int (w0_near x1_1.toNatClampNeg)]) (rest := [.int q_17]) ⟨hx, hb, hml, hown, htt⟩ (c_Mo_count l dC dI cI cJ cG cZ H.size F (w0_near x1_1.toNatClampNeg) q_21 hc_22) (cwS 1 htt (gdS kt_972 kt_973 kt_10 kt_974) rfl rfl rfl (by decide +kernel) ⟨(Nat.le_of_ble_eq_true rfl), (Nat.le_of_ble_eq_true rfl)⟩) ⟨PcS_blind, PcS_in hPc hK hDc hNw⟩ rfl rfl hl.1 rfl (lv_room (Nat.le_of_ble_eq_true rfl)) d_Mo_nextByColours_67 ⟨Nat.zero_le _, Nat.zero_le _⟩) hS (fun q _ h => hFc q h) hFc (fun r_23 u t H1 locs ht hvm hw hB hz1 hk1 hS => ?_)
          obtain ⟨hP1, hK1, hD1⟩ := hB
          rw [ht] at hP1
          subst hw
          obtain ⟨hP, hD⟩ := va_join (wr := [(a0, .inr (8, [.int v0_thrown, .int v0_nodes, .int v0_arcs, .ref a0_from, .ref a0_to, .ref a0_near, .ref a0_lists, .ref a0_colours, .ref a0_shades, .ref a0_tints, .ref a0_attempt, .int v0_takenMany, .ref a0_taken, .int v0_leftBits, .ref a0_isApart, .ref a0_ways, .ref a0_next, .ref a0_splits, .ref a0_powers, .ref a0_row, .ref a0_many, .int v0_hasPolynomial, .int v0_hasLists, .ref a0_can, .ref a0_could, .ref a0_arcRow, .ref a0_order, .ref a0_isOut])), (a0_near, .inl (cI, 12, .inl w0_near)), (a0_tints, .inl (cI, 12, .inl w0_tints))]) (w1 := (wd_Mo_count cI cJ cG cZ)) hP hD [] [0, 1, 2] rfl rfl (by decide) (by decide) hk1 hFc hP1 hD1
          have hP : va_P (dC, dI) vwCl (wd_Mo_nextByColours cI cJ cG cZ a0 a0_from a0_to a0_near a0_lists a0_colours a0_shades a0_tints a0_attempt a0_taken a0_isApart a0_ways a0_next a0_splits a0_powers a0_row a0_many a0_can a0_could a0_arcRow a0_order a0_isOut v0_thrown v0_nodes v0_arcs v0_takenMany v0_leftBits v0_hasPolynomial v0_hasLists w0_near w0_tints) H1 := hP.sub [0, 1, 2] rfl
          have hD : va_D A (wd_Mo_nextByColours cI cJ cG cZ a0 a0_from a0_to a0_near a0_lists a0_colours a0_shades a0_tints a0_attempt a0_taken a0_isApart a0_ways a0_next a0_splits a0_powers a0_row a0_many a0_can a0_could a0_arcRow a0_order a0_isOut v0_thrown v0_nodes v0_arcs v0_takenMany v0_leftBits v0_hasPolynomial v0_hasLists w0_near w0_tints) := hD.sub [0, 1, 2] (by decide) rfl
          clear hP1 hK1 hD1 hk1 hPc hDc hFc ht hvm hz1
          generalize H1 = H at hP hS ⊢
          refine lv_isub hx hb d_Mo_nextByColours_70 ?_
          exact jp_71 _ ls H locs hm (lv_sub hl [1, 2, 3, 0] rfl) hP hD hS
        · have hm := ite_t c_15 hm
          refine lv_iconst (v := 1) hx hb d_Mo_nextByColours_48 (by decide) ?_
          refine lv_goto (tgt := 71) hx hb d_Mo_nextByColours_49 (by decide) ?_
          exact jp_71 _ ls H locs hm (lv_sub hl [1, 2, 3, 0] rfl) hP hD hS
      clear hJ_42
      refine lv_icmp_ne (tgt := 31) hx hb d_Mo_nextByColours_24 (by decide) (fun c_24 => ?_) (fun c_24 => ?_)
      · have hm := ite_f c_24 hm
        refine lv_aload_n hx hb d_Mo_nextByColours_31 rfl (lv_at hl 0 rfl) ?_
        refine lv_iload_n hx hb d_Mo_nextByColours_32 rfl (lv_at hl 2 rfl) ?_
        obtain ⟨q_25, hc_26, hm⟩ := gM_e hm
        have hPc : va_P (dC, dI) vwCl (wd_Mo_different cI cJ cG cZ a0 a0_from a0_to a0_near a0_lists a0_colours a0_shades a0_tints a0_attempt a0_taken a0_isApart a0_ways a0_next a0_splits a0_powers a0_row a0_many a0_can a0_could a0_arcRow a0_order a0_isOut v0_thrown v0_nodes v0_arcs v0_takenMany v0_leftBits v0_hasPolynomial v0_hasLists w0_near w0_tints) H := hP.sub [0, 1, 2] rfl
        have hDc : va_D A (wd_Mo_different cI cJ cG cZ a0 a0_from a0_to a0_near a0_lists a0_colours a0_shades a0_tints a0_attempt a0_taken a0_isApart a0_ways a0_next a0_splits a0_powers a0_row a0_many a0_can a0_could a0_arcRow a0_order a0_isOut v0_thrown v0_nodes v0_arcs v0_takenMany v0_leftBits v0_hasPolynomial v0_hasLists w0_near w0_tints) := hD.sub [0, 1, 2] (by decide) rfl
        have hFc : ∀ q, va_A (wd_Mo_different cI cJ cG cZ a0 a0_from a0_to a0_near a0_lists a0_colours a0_shades a0_tints a0_attempt a0_taken a0_isApart a0_ways a0_next a0_splits a0_powers a0_row a0_many a0_can a0_could a0_arcRow a0_order a0_isOut v0_thrown v0_nodes v0_arcs v0_takenMany v0_leftBits v0_hasPolynomial v0_hasLists w0_near w0_tints) H.size q → A q := va_free hD hS hA [0, 1, 2] rfl
        refine va_calli (va_runV (As := [.int x2_2]) (rest := []) ⟨hx, hb, hml, hown, htt⟩ (c_Mo_different l dC dI cI cJ cG cZ a0 a0_from a0_to a0_near a0_lists a0_colours a0_shades a0_tints a0_attempt a0_taken a0_isApart a0_ways a0_next a0_splits a0_powers a0_row a0_many a0_can a0_could a0_arcRow a0_order a0_isOut H.size F v0_thrown v0_nodes v0_arcs v0_takenMany v0_leftBits v0_hasPolynomial v0_hasLists w0_near w0_tints x2_2 q_25 hc_26) (cwV 1 htt (gdV kt_1007 kt_1009 kp_59 kt_10 kt_1010) rfl rfl rfl (by decide +kernel) ⟨(Nat.le_of_ble_eq_true rfl), (Nat.le_of_ble_eq_true rfl)⟩) ⟨PcS_blind, va_recv hK hPc (ci := 8) (q0 := 0) rfl rfl, PcS_in hPc hK hDc hNw⟩ rfl rfl hl.1 rfl (lv_room (Nat.le_of_ble_eq_true rfl)) d_Mo_nextByColours_33 ⟨Nat.zero_le _, Nat.zero_le _⟩) hS (fun q _ h => hFc q h) hFc (fun r_27 u t H1 locs ht hvm hw hB hz1 hk1 hS => ?_)
        obtain ⟨hP1, hK1, hD1⟩ := hB
        rw [ht] at hP1
        subst hw
        obtain ⟨hP, hD⟩ := va_join (wr := []) (w1 := (wd_Mo_different cI cJ cG cZ a0 a0_from a0_to a0_near a0_lists a0_colours a0_shades a0_tints a0_attempt a0_taken a0_isApart a0_ways a0_next a0_splits a0_powers a0_row a0_many a0_can a0_could a0_arcRow a0_order a0_isOut v0_thrown v0_nodes v0_arcs v0_takenMany v0_leftBits v0_hasPolynomial v0_hasLists w0_near w0_tints)) hP hD [0, 1, 2] [] rfl rfl (by decide) (by decide) hk1 hFc hP1 hD1
        have hP : va_P (dC, dI) vwCl (wd_Mo_nextByColours cI cJ cG cZ a0 a0_from a0_to a0_near a0_lists a0_colours a0_shades a0_tints a0_attempt a0_taken a0_isApart a0_ways a0_next a0_splits a0_powers a0_row a0_many a0_can a0_could a0_arcRow a0_order a0_isOut v0_thrown v0_nodes v0_arcs v0_takenMany v0_leftBits v0_hasPolynomial v0_hasLists w0_near w0_tints) H1 := hP.sub [0, 1, 2] rfl
        have hD : va_D A (wd_Mo_nextByColours cI cJ cG cZ a0 a0_from a0_to a0_near a0_lists a0_colours a0_shades a0_tints a0_attempt a0_taken a0_isApart a0_ways a0_next a0_splits a0_powers a0_row a0_many a0_can a0_could a0_arcRow a0_order a0_isOut v0_thrown v0_nodes v0_arcs v0_takenMany v0_leftBits v0_hasPolynomial v0_hasLists w0_near w0_tints) := hD.sub [0, 1, 2] (by decide) rfl
        clear hP1 hK1 hD1 hk1 hPc hDc hFc ht hvm hz1
        generalize H1 = H at hP hS ⊢
        refine lv_aload_n hx hb d_Mo_nextByColours_36 rfl (lv_at hl 0 rfl) ?_
        refine lv_iload_n hx hb d_Mo_nextByColours_37 rfl (lv_at hl 1 rfl) ?_
        obtain ⟨q_28, hc_29, hm⟩ := gM_e hm
        have hPc : va_P (dC, dI) vwCl (wd_Mo_different cI cJ cG cZ a0 a0_from a0_to a0_near a0_lists a0_colours a0_shades a0_tints a0_attempt a0_taken a0_isApart a0_ways a0_next a0_splits a0_powers a0_row a0_many a0_can a0_could a0_arcRow a0_order a0_isOut v0_thrown v0_nodes v0_arcs v0_takenMany v0_leftBits v0_hasPolynomial v0_hasLists w0_near w0_tints) H := hP.sub [0, 1, 2] rfl
        have hDc : va_D A (wd_Mo_different cI cJ cG cZ a0 a0_from a0_to a0_near a0_lists a0_colours a0_shades a0_tints a0_attempt a0_taken a0_isApart a0_ways a0_next a0_splits a0_powers a0_row a0_many a0_can a0_could a0_arcRow a0_order a0_isOut v0_thrown v0_nodes v0_arcs v0_takenMany v0_leftBits v0_hasPolynomial v0_hasLists w0_near w0_tints) := hD.sub [0, 1, 2] (by decide) rfl
        have hFc : ∀ q, va_A (wd_Mo_different cI cJ cG cZ a0 a0_from a0_to a0_near a0_lists a0_colours a0_shades a0_tints a0_attempt a0_taken a0_isApart a0_ways a0_next a0_splits a0_powers a0_row a0_many a0_can a0_could a0_arcRow a0_order a0_isOut v0_thrown v0_nodes v0_arcs v0_takenMany v0_leftBits v0_hasPolynomial v0_hasLists w0_near w0_tints) H.size q → A q := va_free hD hS hA [0, 1, 2] rfl
        refine va_calli (va_runV (As := [.int x1_1]) (rest := [.int q_25]) ⟨hx, hb, hml, hown, htt⟩ (c_Mo_different l dC dI cI cJ cG cZ a0 a0_from a0_to a0_near a0_lists a0_colours a0_shades a0_tints a0_attempt a0_taken a0_isApart a0_ways a0_next a0_splits a0_powers a0_row a0_many a0_can a0_could a0_arcRow a0_order a0_isOut H.size F v0_thrown v0_nodes v0_arcs v0_takenMany v0_leftBits v0_hasPolynomial v0_hasLists w0_near w0_tints x1_1 q_28 hc_29) (cwV 1 htt (gdV kt_1007 kt_1009 kp_59 kt_10 kt_1010) rfl rfl rfl (by decide +kernel) ⟨(Nat.le_of_ble_eq_true rfl), (Nat.le_of_ble_eq_true rfl)⟩) ⟨PcS_blind, va_recv hK hPc (ci := 8) (q0 := 0) rfl rfl, PcS_in hPc hK hDc hNw⟩ rfl rfl hl.1 rfl (lv_room (Nat.le_of_ble_eq_true rfl)) d_Mo_nextByColours_38 ⟨Nat.zero_le _, Nat.zero_le _⟩) hS (fun q _ h => hFc q h) hFc (fun r_30 u t H1 locs ht hvm hw hB hz1 hk1 hS => ?_)
        obtain ⟨hP1, hK1, hD1⟩ := hB
        rw [ht] at hP1
        subst hw
        obtain ⟨hP, hD⟩ := va_join (wr := []) (w1 := (wd_Mo_different cI cJ cG cZ a0 a0_from a0_to a0_near a0_lists a0_colours a0_shades a0_tints a0_attempt a0_taken a0_isApart a0_ways a0_next a0_splits a0_powers a0_row a0_many a0_can a0_could a0_arcRow a0_order a0_isOut v0_thrown v0_nodes v0_arcs v0_takenMany v0_leftBits v0_hasPolynomial v0_hasLists w0_near w0_tints)) hP hD [0, 1, 2] [] rfl rfl (by decide) (by decide) hk1 hFc hP1 hD1
        have hP : va_P (dC, dI) vwCl (wd_Mo_nextByColours cI cJ cG cZ a0 a0_from a0_to a0_near a0_lists a0_colours a0_shades a0_tints a0_attempt a0_taken a0_isApart a0_ways a0_next a0_splits a0_powers a0_row a0_many a0_can a0_could a0_arcRow a0_order a0_isOut v0_thrown v0_nodes v0_arcs v0_takenMany v0_leftBits v0_hasPolynomial v0_hasLists w0_near w0_tints) H1 := hP.sub [0, 1, 2] rfl
        have hD : va_D A (wd_Mo_nextByColours cI cJ cG cZ a0 a0_from a0_to a0_near a0_lists a0_colours a0_shades a0_tints a0_attempt a0_taken a0_isApart a0_ways a0_next a0_splits a0_powers a0_row a0_many a0_can a0_could a0_arcRow a0_order a0_isOut v0_thrown v0_nodes v0_arcs v0_takenMany v0_leftBits v0_hasPolynomial v0_hasLists w0_near w0_tints) := hD.sub [0, 1, 2] (by decide) rfl
        clear hP1 hK1 hD1 hk1 hPc hDc hFc ht hvm hz1
        generalize H1 = H at hP hS ⊢
        refine lv_isub hx hb d_Mo_nextByColours_41 ?_
        exact jp_42 _ ls H locs hm (lv_sub hl [0, 1, 2] rfl) hP hD hS
      · have hm := ite_t c_24 hm
        refine lv_iconst (v := 1) hx hb d_Mo_nextByColours_27 (by decide) ?_
        refine lv_goto (tgt := 42) hx hb d_Mo_nextByColours_28 (by decide) ?_
        exact jp_42 _ ls H locs hm (lv_sub hl [0, 1, 2] rfl) hP hD hS
