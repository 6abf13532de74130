theorem d_Mo_thrown_0 : decode prog_10_method_2_code 0 = .ok (.aload_n 0, 1) := by decide +kernel
theorem d_Mo_thrown_1 : decode prog_10_method_2_code 1 = .ok (.getfield 79, 3) := by decide +kernel
theorem d_Mo_thrown_4 : decode prog_10_method_2_code 4 = .ok (.ireturn, 1) := by decide +kernel
abbrev wd_Mo_thrown (cI cJ cG cZ : ClassId) (a0 a0_from a0_to a0_near a0_lists a0_colours a0_shades a0_tints a0_attempt a0_taken a0_isApart a0_ways a0_next a0_splits a0_powers a0_row a0_many a0_can a0_could a0_arcRow a0_order a0_isOut : Nat) (v0_thrown : Int32) (v0_nodes : Int32) (v0_arcs : Int32) (v0_takenMany : Int32) (v0_leftBits : Int32) (v0_hasPolynomial : Int32) (v0_hasLists : Int32) : va_W := [(a0, .inr (8, [.int v0_thrown, .int v0_nodes, .int v0_arcs, .ref a0_from, .ref a0_to, .ref a0_near, .ref a0_lists, .ref a0_colours, .ref a0_shades, .ref a0_tints, .ref a0_attempt, .int v0_takenMany, .ref a0_taken, .int v0_leftBits, .ref a0_isApart, .ref a0_ways, .ref a0_next, .ref a0_splits, .ref a0_powers, .ref a0_row, .ref a0_many, .int v0_hasPolynomial, .int v0_hasLists, .ref a0_can, .ref a0_could, .ref a0_arcRow, .ref a0_order, .ref a0_isOut]))]
abbrev us_Mo_thrown : List Cond := .code y_Mo_thrown prog_10_method_2_code 1 (some .int) :: gtbl
abbrev rm_Mo_thrown : Room := { frames := 0, cells := 0, slots := 0, locals := 0 }
def m_Mo_thrown (F : Nat) (v0_thrown : Int32) (v0_nodes : Int32) (v0_arcs : Int32) (v0_takenMany : Int32) (v0_leftBits : Int32) (v0_hasPolynomial : Int32) (v0_hasLists : Int32) : Option (Int32) :=
  some v0_thrown
set_option maxHeartbeats 4000000 in
set_option maxRecDepth 100000 in
theorem c_Mo_thrown (l : Launch) (dC : Nat → ClassId) (dI : Nat → Nat → Nat) (cI cJ cG cZ : ClassId) (a0 a0_from a0_to a0_near a0_lists a0_colours a0_shades a0_tints a0_attempt a0_taken a0_isApart a0_ways a0_next a0_splits a0_powers a0_row a0_many a0_can a0_could a0_arcRow a0_order a0_isOut : Nat) (sz : Nat) (F : Nat) (v0_thrown : Int32) (v0_nodes : Int32) (v0_arcs : Int32) (v0_takenMany : Int32) (v0_leftBits : Int32) (v0_hasPolynomial : Int32) (v0_hasLists : Int32) (ret : Int32) (hm : m_Mo_thrown F v0_thrown v0_nodes v0_arcs v0_takenMany v0_leftBits v0_hasPolynomial v0_hasLists = some ret) : Met l y_Mo_thrown us_Mo_thrown rm_Mo_thrown (PcS (dC, dI) (tyL cI cJ cG cZ) [.ref a0] sz (wd_Mo_thrown cI cJ cG cZ a0 a0_from a0_to a0_near a0_lists a0_colours a0_shades a0_tints a0_attempt a0_taken a0_isApart a0_ways a0_next a0_splits a0_powers a0_row a0_many a0_can a0_could a0_arcRow a0_order a0_isOut v0_thrown v0_nodes v0_arcs v0_takenMany v0_leftBits v0_hasPolynomial v0_hasLists)) (va_Qi (fun (r : Int32) (_ : Unit) => ret = r) (fun _ t => PoS (dC, dI) (tyL cI cJ cG cZ) (wd_Mo_thrown cI cJ cG cZ a0 a0_from a0_to a0_near a0_lists a0_colours a0_shades a0_tints a0_attempt a0_taken a0_isApart a0_ways a0_next a0_splits a0_powers a0_row a0_many a0_can a0_could a0_arcRow a0_order a0_isOut v0_thrown v0_nodes v0_arcs v0_takenMany v0_leftBits v0_hasPolynomial v0_hasLists) (va_A (wd_Mo_thrown cI cJ cG cZ a0 a0_from a0_to a0_near a0_lists a0_colours a0_shades a0_tints a0_attempt a0_taken a0_isApart a0_ways a0_next a0_splits a0_powers a0_row a0_many a0_can a0_could a0_arcRow a0_order a0_isOut v0_thrown v0_nodes v0_arcs v0_takenMany v0_leftBits v0_hasPolynomial v0_hasLists) sz) t) (va_A (wd_Mo_thrown cI cJ cG cZ a0 a0_from a0_to a0_near a0_lists a0_colours a0_shades a0_tints a0_attempt a0_taken a0_isApart a0_ways a0_next a0_splits a0_powers a0_row a0_many a0_can a0_could a0_arcRow a0_order a0_isOut v0_thrown v0_nodes v0_arcs v0_takenMany v0_leftBits v0_hasPolynomial v0_hasLists) sz)) 0 0 (va_A (wd_Mo_thrown cI cJ cG cZ a0 a0_from a0_to a0_near a0_lists a0_colours a0_shades a0_tints a0_attempt a0_taken a0_isApart a0_ways a0_next a0_splits a0_powers a0_row a0_many a0_can a0_could a0_arcRow a0_order a0_isOut v0_thrown v0_nodes v0_arcs v0_takenMany v0_leftBits v0_hasPolynomial v0_hasLists) sz) := by
  refine Met.ofW (cc := prog_10_method_2_code) (maxL := 1) (ret := (some .int)) (by decide) rfl ?_
  intro p e s m args below meth c s₁ B hml hv
  obtain ⟨rfl, hsz, hP, hK, hD0, hNw⟩ := hv
  have hx := B.exec
  have hb := B.bytes
  have hr := B.returns
  have htt : ∀ w ∈ gtbl, w.before _ s = true := fun w h => atoms_spec (ws := us_Mo_thrown) B.pre w (List.mem_cons_of_mem _ h)
  have hown : s.vm.findClass R_Mo = some m.cls := findClass_of_methodNamed B.named
  have hlocks := B.notSynchronized
  subst hsz
  have hD := hD0.self (sz := s.heap.size)
  generalize hAe : va_A (wd_Mo_thrown cI cJ cG cZ a0 a0_from a0_to a0_near a0_lists a0_colours a0_shades a0_tints a0_attempt a0_taken a0_isApart a0_ways a0_next a0_splits a0_powers a0_row a0_many a0_can a0_could a0_arcRow a0_order a0_isOut v0_thrown v0_nodes v0_arcs v0_takenMany v0_leftBits v0_hasPolynomial v0_hasLists) s.heap.size = A at hD ⊢
  have hA : ∀ q : Nat, s.heap.size ≤ q → A q := fun q h => by rw [← hAe]; exact Or.inr h
  clear hAe hD0
  have hS : va_S A s.heap s.heap [] := va_S.rf
  have hl := lv_entry ([.ref a0]) (n := 1) (Nat.le_of_ble_eq_true rfl)
  rw [lg_entry_eq]
  generalize (lg_sl ([.ref a0]) ++ List.replicate (1 - (lg_sl ([.ref a0])).length) Slot.unset).toArray = ls at hl ⊢
  have hl : lv_has ls 1 [(0, .ref a0)] := hl
  generalize hH : s.heap = H at hP ⊢
  have hS : va_S A s.heap H [] := hH ▸ hS
  generalize hLo : ([] : List Loc) = locs at hS ⊢
  clear hH hLo
  unfold m_Mo_thrown at hm
  refine lv_aload_n hx hb d_Mo_thrown_0 rfl (lv_at hl 0 rfl) ?_
  refine va_get (D := (dC, dI)) (ci := 8) (v := .int v0_thrown) (C := R_Mo) (T := T_Mo) (N := 28) hx hb htt hin_Mo hown hK hP 0 rfl rfl 0 (by decide) (htt _ kt_769) (fun _ h9 => h9) rfl d_Mo_thrown_1 ?_
  cases hm
  exact W.iret hx hb hr (fun t ht hW => ⟨⟨_, (), rfl, rfl, by rw [ht]; exact hP, va_K.moved hW.alike hK, hD⟩, hS.F ht⟩) hS.2.2 d_Mo_thrown_4
theorem d_Mo_changed_0 : decode prog_10_method_18_code 0 = .ok (.aload_n 0, 1) := by decide +kernel
theorem d_Mo_changed_1 : decode prog_10_method_18_code 1 = .ok (.iconst 0, 1) := by decide +kernel
theorem d_Mo_changed_2 : decode prog_10_method_18_code 2 = .ok (.putfield 120, 3) := by decide +kernel
theorem d_Mo_changed_5 : decode prog_10_method_18_code 5 = .ok (.aload_n 0, 1) := by decide +kernel
theorem d_Mo_changed_6 : decode prog_10_method_18_code 6 = .ok (.iconst 0, 1) := by decide +kernel
theorem d_Mo_changed_7 : decode prog_10_method_18_code 7 = .ok (.putfield 124, 3) := by decide +kernel
theorem d_Mo_changed_10 : decode prog_10_method_18_code 10 = .ok (.return_, 1) := by decide +kernel
abbrev wd_Mo_changed (cI cJ cG cZ : ClassId) (a0 a0_from a0_to a0_near a0_lists a0_colours a0_shades a0_tints a0_attempt a0_taken a0_isApart a0_ways a0_next a0_splits a0_powers a0_row a0_many a0_can a0_could a0_arcRow a0_order a0_isOut : Nat) (v0_thrown : Int32) (v0_nodes : Int32) (v0_arcs : Int32) (v0_takenMany : Int32) (v0_leftBits : Int32) (v0_hasPolynomial : Int32) (v0_hasLists : Int32) : va_W := [(a0, .inr (8, [.int v0_thrown, .int v0_nodes, .int v0_arcs, .ref a0_from, .ref a0_to, .ref a0_near, .ref a0_lists, .ref a0_colours, .ref a0_shades, .ref a0_tints, .ref a0_attempt, .int v0_takenMany, .ref a0_taken, .int v0_leftBits, .ref a0_isApart, .ref a0_ways, .ref a0_next, .ref a0_splits, .ref a0_powers, .ref a0_row, .ref a0_many, .int v0_hasPolynomial, .int v0_hasLists, .ref a0_can, .ref a0_could, .ref a0_arcRow, .ref a0_order, .ref a0_isOut]))]
abbrev us_Mo_changed : List Cond := .code y_Mo_changed prog_10_method_18_code 1 none :: gtbl
abbrev rm_Mo_changed : Room := { frames := 0, cells := 0, slots := 0, locals := 0 }
def m_Mo_changed (F : Nat) (v0_thrown : Int32) (v0_nodes : Int32) (v0_arcs : Int32) (v0_takenMany : Int32) (v0_leftBits : Int32) (v0_hasPolynomial : Int32) (v0_hasLists : Int32) : Option (Int32 × Int32) :=
  some (0, 0)
set_option maxHeartbeats 4000000 in
set_option maxRecDepth 100000 in
theorem c_Mo_changed (l : Launch) (dC : Nat → ClassId) (dI : Nat → Nat → Nat) (cI cJ cG cZ : ClassId) (a0 a0_from a0_to a0_near a0_lists a0_colours a0_shades a0_tints a0_attempt a0_taken a0_isApart a0_ways a0_next a0_splits a0_powers a0_row a0_many a0_can a0_could a0_arcRow a0_order a0_isOut : Nat) (sz : Nat) (F : Nat) (v0_thrown : Int32) (v0_nodes : Int32) (v0_arcs : Int32) (v0_takenMany : Int32) (v0_leftBits : Int32) (v0_hasPolynomial : Int32) (v0_hasLists : Int32) (o_v0_hasPolynomial : Int32) (o_v0_hasLists : Int32) (hm : m_Mo_changed F v0_thrown v0_nodes v0_arcs v0_takenMany v0_leftBits v0_hasPolynomial v0_hasLists = some (o_v0_hasPolynomial, o_v0_hasLists)) : Met l y_Mo_changed us_Mo_changed rm_Mo_changed (PcS (dC, dI) (tyL cI cJ cG cZ) [.ref a0] sz (wd_Mo_changed cI cJ cG cZ a0 a0_from a0_to a0_near a0_lists a0_colours a0_shades a0_tints a0_attempt a0_taken a0_isApart a0_ways a0_next a0_splits a0_powers a0_row a0_many a0_can a0_could a0_arcRow a0_order a0_isOut v0_thrown v0_nodes v0_arcs v0_takenMany v0_leftBits v0_hasPolynomial v0_hasLists)) (va_Qv (fun (_ : Unit) => True) (fun _ t => PoS (dC, dI) (tyL cI cJ cG cZ) (wd_Mo_changed cI cJ cG cZ a0 a0_from a0_to a0_near a0_lists a0_colours a0_shades a0_tints a0_attempt a0_taken a0_isApart a0_ways a0_next a0_splits a0_powers a0_row a0_many a0_can a0_could a0_arcRow a0_order a0_isOut v0_thrown v0_nodes v0_arcs v0_takenMany v0_leftBits o_v0_hasPolynomial o_v0_hasLists) (va_A (wd_Mo_changed cI cJ cG cZ a0 a0_from a0_to a0_near a0_lists a0_colours a0_shades a0_tints a0_attempt a0_taken a0_isApart a0_ways a0_next a0_splits a0_powers a0_row a0_many a0_can a0_could a0_arcRow a0_order a0_isOut v0_thrown v0_nodes v0_arcs v0_takenMany v0_leftBits v0_hasPolynomial v0_hasLists) sz) t) (va_A (wd_Mo_changed cI cJ cG cZ a0 a0_from a0_to a0_near a0_lists a0_colours a0_shades a0_tints a0_attempt a0_taken a0_isApart a0_ways a0_next a0_splits a0_powers a0_row a0_many a0_can a0_could a0_arcRow a0_order a0_isOut v0_thrown v0_nodes v0_arcs v0_takenMany v0_leftBits v0_hasPolynomial v0_hasLists) sz)) 0 0 (va_A (wd_Mo_changed cI cJ cG cZ a0 a0_from a0_to a0_near a0_lists a0_colours a0_shades a0_tints a0_attempt a0_taken a0_isApart a0_ways a0_next a0_splits a0_powers a0_row a0_many a0_can a0_could a0_arcRow a0_order a0_isOut v0_thrown v0_nodes v0_arcs v0_takenMany v0_leftBits v0_hasPolynomial v0_hasLists) sz) := by
  refine Met.ofW (cc := prog_10_method_18_code) (maxL := 1) (ret := none) (by decide) rfl ?_
  intro p e s m args below meth c s₁ B hml hv
  obtain ⟨rfl, hsz, hP, hK, hD0, hNw⟩ := hv
  have hx := B.exec
  have hb := B.bytes
  have hr := B.returns
  have htt : ∀ w ∈ gtbl, w.before _ s = true := fun w h => atoms_spec (ws := us_Mo_changed) B.pre w (List.mem_cons_of_mem _ h)
  have hown : s.vm.findClass R_Mo = some m.cls := findClass_of_methodNamed B.named
  have hlocks := B.notSynchronized
  subst hsz
  have hD := hD0.self (sz := s.heap.size)
  generalize hAe : va_A (wd_Mo_changed cI cJ cG cZ a0 a0_from a0_to a0_near a0_lists a0_colours a0_shades a0_tints a0_attempt a0_taken a0_isApart a0_ways a0_next a0_splits a0_powers a0_row a0_many a0_can a0_could a0_arcRow a0_order a0_isOut v0_thrown v0_nodes v0_arcs v0_takenMany v0_leftBits v0_hasPolynomial v0_hasLists) s.heap.size = A at hD ⊢
  have hA : ∀ q : Nat, s.heap.size ≤ q → A q := fun q h => by rw [← hAe]; exact Or.inr h
  clear hAe hD0
  have hS : va_S A s.heap s.heap [] := va_S.rf
  have hl := lv_entry ([.ref a0]) (n := 1) (Nat.le_of_ble_eq_true rfl)
  rw [lg_entry_eq]
  generalize (lg_sl ([.ref a0]) ++ List.replicate (1 - (lg_sl ([.ref a0])).length) Slot.unset).toArray = ls at hl ⊢
  have hl : lv_has ls 1 [(0, .ref a0)] := hl
  generalize hH : s.heap = H at hP ⊢
  have hS : va_S A s.heap H [] := hH ▸ hS
  generalize hLo : ([] : List Loc) = locs at hS ⊢
  clear hH hLo
  unfold m_Mo_changed at hm
  refine lv_aload_n hx hb d_Mo_changed_0 rfl (lv_at hl 0 rfl) ?_
  refine lv_iconst (v := 0) hx hb d_Mo_changed_1 (by decide) ?_
  refine va_put (D := (dC, dI)) (ci := 8) (v := .int 0) (ty := .boolean) (C := R_Mo) (T := T_Mo) (N := 28) hx hb htt hin_Mo ty_Mo tyok_Mo nm_Mo hown hK hP hD hS 0 rfl rfl 21 (by decide) (htt _ kt_790) (fun _ h9 => h9) rfl (by decide +kernel) rfl (by decide) (Nat.le_of_ble_eq_true rfl) d_Mo_changed_2 (fun H locs hP hD hS => ?_)
  have hP : va_P (dC, dI) vwCl (wd_Mo_changed cI cJ cG cZ a0 a0_from a0_to a0_near a0_lists a0_colours a0_shades a0_tints a0_attempt a0_taken a0_isApart a0_ways a0_next a0_splits a0_powers a0_row a0_many a0_can a0_could a0_arcRow a0_order a0_isOut v0_thrown v0_nodes v0_arcs v0_takenMany v0_leftBits 0 v0_hasLists) H := hP
  have hD : va_D A (wd_Mo_changed cI cJ cG cZ a0 a0_from a0_to a0_near a0_lists a0_colours a0_shades a0_tints a0_attempt a0_taken a0_isApart a0_ways a0_next a0_splits a0_powers a0_row a0_many a0_can a0_could a0_arcRow a0_order a0_isOut v0_thrown v0_nodes v0_arcs v0_takenMany v0_leftBits 0 v0_hasLists) := hD
  refine lv_aload_n hx hb d_Mo_changed_5 rfl (lv_at hl 0 rfl) ?_
  refine lv_iconst (v := 0) hx hb d_Mo_changed_6 (by decide) ?_
  refine va_put (D := (dC, dI)) (ci := 8) (v := .int 0) (ty := .boolean) (C := R_Mo) (T := T_Mo) (N := 28) hx hb htt hin_Mo ty_Mo tyok_Mo nm_Mo hown hK hP hD hS 0 rfl rfl 22 (by decide) (htt _ kt_791) (fun _ h9 => h9) rfl (by decide +kernel) rfl (by decide) (Nat.le_of_ble_eq_true rfl) d_Mo_changed_7 (fun H locs hP hD hS => ?_)
  have hP : va_P (dC, dI) vwCl (wd_Mo_changed cI cJ cG cZ a0 a0_from a0_to a0_near a0_lists a0_colours a0_shades a0_tints a0_attempt a0_taken a0_isApart a0_ways a0_next a0_splits a0_powers a0_row a0_many a0_can a0_could a0_arcRow a0_order a0_isOut v0_thrown v0_nodes v0_arcs v0_takenMany v0_leftBits 0 0) H := hP
  have hD : va_D A (wd_Mo_changed cI cJ cG cZ a0 a0_from a0_to a0_near a0_lists a0_colours a0_shades a0_tints a0_attempt a0_taken a0_isApart a0_ways a0_next a0_splits a0_powers a0_row a0_many a0_can a0_could a0_arcRow a0_order a0_isOut v0_thrown v0_nodes v0_arcs v0_takenMany v0_leftBits 0 0) := hD
  cases hm
  exact W.vret hx hb hr (fun t ht hW => ⟨⟨(), rfl, trivial, by rw [ht]; exact hP, va_K.moved hW.alike hK, hD⟩, hS.F ht⟩) hS.2.2 d_Mo_changed_10
theorem d_Mo_clear_0 : decode prog_10_method_3_code 0 = .ok (.aload_n 0, 1) := by decide +kernel
theorem d_Mo_clear_1 : decode prog_10_method_3_code 1 = .ok (.iconst 0, 1) := by decide +kernel
theorem d_Mo_clear_2 : decode prog_10_method_3_code 2 = .ok (.putfield 79, 3) := by decide +kernel
theorem d_Mo_clear_5 : decode prog_10_method_3_code 5 = .ok (.aload_n 0, 1) := by decide +kernel
theorem d_Mo_clear_6 : decode prog_10_method_3_code 6 = .ok (.invokevirtual 83, 3) := by decide +kernel
theorem d_Mo_clear_9 : decode prog_10_method_3_code 9 = .ok (.aload_n 0, 1) := by decide +kernel
theorem d_Mo_clear_10 : decode prog_10_method_3_code 10 = .ok (.iconst 0, 1) := by decide +kernel
theorem d_Mo_clear_11 : decode prog_10_method_3_code 11 = .ok (.putfield 86, 3) := by decide +kernel
theorem d_Mo_clear_14 : decode prog_10_method_3_code 14 = .ok (.aload_n 0, 1) := by decide +kernel
theorem d_Mo_clear_15 : decode prog_10_method_3_code 15 = .ok (.iconst 0, 1) := by decide +kernel
theorem d_Mo_clear_16 : decode prog_10_method_3_code 16 = .ok (.putfield 89, 3) := by decide +kernel
theorem d_Mo_clear_19 : decode prog_10_method_3_code 19 = .ok (.aload_n 0, 1) := by decide +kernel
theorem d_Mo_clear_20 : decode prog_10_method_3_code 20 = .ok (.iconst 0, 1) := by decide +kernel
theorem d_Mo_clear_21 : decode prog_10_method_3_code 21 = .ok (.putfield 92, 3) := by decide +kernel
theorem d_Mo_clear_24 : decode prog_10_method_3_code 24 = .ok (.aload_n 0, 1) := by decide +kernel
theorem d_Mo_clear_25 : decode prog_10_method_3_code 25 = .ok (.iconst 0, 1) := by decide +kernel
theorem d_Mo_clear_26 : decode prog_10_method_3_code 26 = .ok (.putfield 95, 3) := by decide +kernel
theorem d_Mo_clear_29 : decode prog_10_method_3_code 29 = .ok (.iconst 0, 1) := by decide +kernel
theorem d_Mo_clear_30 : decode prog_10_method_3_code 30 = .ok (.istore_n 1, 1) := by decide +kernel
theorem d_Mo_clear_31 : decode prog_10_method_3_code 31 = .ok (.iload_n 1, 1) := by decide +kernel
theorem d_Mo_clear_32 : decode prog_10_method_3_code 32 = .ok (.bipush 12, 2) := by decide +kernel
theorem d_Mo_clear_34 : decode prog_10_method_3_code 34 = .ok (.if_icmp .ge 30, 3) := by decide +kernel
theorem d_Mo_clear_37 : decode prog_10_method_3_code 37 = .ok (.aload_n 0, 1) := by decide +kernel
theorem d_Mo_clear_38 : decode prog_10_method_3_code 38 = .ok (.getfield 22, 3) := by decide +kernel
theorem d_Mo_clear_41 : decode prog_10_method_3_code 41 = .ok (.iload_n 1, 1) := by decide +kernel
theorem d_Mo_clear_42 : decode prog_10_method_3_code 42 = .ok (.iconst (-1), 1) := by decide +kernel
theorem d_Mo_clear_43 : decode prog_10_method_3_code 43 = .ok (.iastore, 1) := by decide +kernel
theorem d_Mo_clear_44 : decode prog_10_method_3_code 44 = .ok (.aload_n 0, 1) := by decide +kernel
theorem d_Mo_clear_45 : decode prog_10_method_3_code 45 = .ok (.getfield 28, 3) := by decide +kernel
theorem d_Mo_clear_48 : decode prog_10_method_3_code 48 = .ok (.iload_n 1, 1) := by decide +kernel
theorem d_Mo_clear_49 : decode prog_10_method_3_code 49 = .ok (.iconst (-1), 1) := by decide +kernel
theorem d_Mo_clear_50 : decode prog_10_method_3_code 50 = .ok (.iastore, 1) := by decide +kernel
theorem d_Mo_clear_51 : decode prog_10_method_3_code 51 = .ok (.aload_n 0, 1) := by decide +kernel
theorem d_Mo_clear_52 : decode prog_10_method_3_code 52 = .ok (.getfield 31, 3) := by decide +kernel
theorem d_Mo_clear_55 : decode prog_10_method_3_code 55 = .ok (.iload_n 1, 1) := by decide +kernel
theorem d_Mo_clear_56 : decode prog_10_method_3_code 56 = .ok (.iconst (-1), 1) := by decide +kernel
theorem d_Mo_clear_57 : decode prog_10_method_3_code 57 = .ok (.iastore, 1) := by decide +kernel
theorem d_Mo_clear_58 : decode prog_10_method_3_code 58 = .ok (.iinc 1 1, 3) := by decide +kernel
theorem d_Mo_clear_61 : decode prog_10_method_3_code 61 = .ok (.goto (-30), 3) := by decide +kernel
theorem d_Mo_clear_64 : decode prog_10_method_3_code 64 = .ok (.iconst 0, 1) := by decide +kernel
theorem d_Mo_clear_65 : decode prog_10_method_3_code 65 = .ok (.istore_n 1, 1) := by decide +kernel
theorem d_Mo_clear_66 : decode prog_10_method_3_code 66 = .ok (.iload_n 1, 1) := by decide +kernel
theorem d_Mo_clear_67 : decode prog_10_method_3_code 67 = .ok (.bipush 40, 2) := by decide +kernel
theorem d_Mo_clear_69 : decode prog_10_method_3_code 69 = .ok (.if_icmp .ge 16, 3) := by decide +kernel
theorem d_Mo_clear_72 : decode prog_10_method_3_code 72 = .ok (.aload_n 0, 1) := by decide +kernel
theorem d_Mo_clear_73 : decode prog_10_method_3_code 73 = .ok (.getfield 25, 3) := by decide +kernel
theorem d_Mo_clear_76 : decode prog_10_method_3_code 76 = .ok (.iload_n 1, 1) := by decide +kernel
theorem d_Mo_clear_77 : decode prog_10_method_3_code 77 = .ok (.iconst (-1), 1) := by decide +kernel
theorem d_Mo_clear_78 : decode prog_10_method_3_code 78 = .ok (.iastore, 1) := by decide +kernel
theorem d_Mo_clear_79 : decode prog_10_method_3_code 79 = .ok (.iinc 1 1, 3) := by decide +kernel
theorem d_Mo_clear_82 : decode prog_10_method_3_code 82 = .ok (.goto (-16), 3) := by decide +kernel
theorem d_Mo_clear_85 : decode prog_10_method_3_code 85 = .ok (.return_, 1) := by decide +kernel
abbrev wd_Mo_clear (cI cJ cG cZ : ClassId) (a0 a0_from a0_to a0_near a0_lists a0_colours a0_shades a0_tints a0_attempt a0_taken a0_isApart a0_ways a0_next a0_splits a0_powers a0_row a0_many a0_can a0_could a0_arcRow a0_order a0_isOut : Nat) (v0_thrown : Int32) (v0_nodes : Int32) (v0_arcs : Int32) (v0_takenMany : Int32) (v0_leftBits : Int32) (v0_hasPolynomial : Int32) (v0_hasLists : Int32) (w0_colours : Nat → Int32) (w0_shades : Nat → Int32) (w0_tints : Nat → Int32) (w0_attempt : Nat → Int32) : va_W := [(a0, .inr (8, [.int v0_thrown, .int v0_nodes, .int v0_arcs, .ref a0_from, .ref a0_to, .ref a0_near, .ref a0_lists, .ref a0_colours, .ref a0_shades, .ref a0_tints, .ref a0_attempt, .int v0_takenMany, .ref a0_taken, .int v0_leftBits, .ref a0_isApart, .ref a0_ways, .ref a0_next, .ref a0_splits, .ref a0_powers, .ref a0_row, .ref a0_many, .int v0_hasPolynomial, .int v0_hasLists, .ref a0_can, .ref a0_could, .ref a0_arcRow, .ref a0_order, .ref a0_isOut])), (a0_colours, .inl (cI, 12, .inl w0_colours)), (a0_shades, .inl (cI, 40, .inl w0_shades)), (a0_tints, .inl (cI, 12, .inl w0_tints)), (a0_attempt, .inl (cI, 12, .inl w0_attempt))]
abbrev us_Mo_clear : List Cond := .code y_Mo_clear prog_10_method_3_code 2 none :: gtbl
abbrev rm_Mo_clear : Room := { frames := 1, cells := 0, slots := 0, locals := 20 }
def m_Mo_clear (F : Nat) (v0_thrown : Int32) (v0_nodes : Int32) (v0_arcs : Int32) (v0_takenMany : Int32) (v0_leftBits : Int32) (v0_hasPolynomial : Int32) (v0_hasLists : Int32) (w0_colours : Nat → Int32) (w0_shades : Nat → Int32) (w0_tints : Nat → Int32) (w0_attempt : Nat → Int32) : Option (Int32 × Int32 × Int32 × Int32 × Int32 × Int32 × Int32 × (Nat → Int32) × (Nat → Int32) × (Nat → Int32) × (Nat → Int32)) :=
  gM (m_Mo_changed F 0 v0_nodes v0_arcs v0_takenMany v0_leftBits v0_hasPolynomial v0_hasLists) (fun (z_4 : Int32 × Int32) => match z_4 with
  | (v0_hasPolynomial_1, v0_hasLists_2) =>
  gL (fun (k_31 : (Int32 × (Nat → Int32) × (Nat → Int32) × (Nat → Int32)) → Option (Int32 × Int32 × Int32 × Int32 × Int32 × Int32 × Int32 × (Nat → Int32) × (Nat → Int32) × (Nat → Int32) × (Nat → Int32))) (z_31 : Int32 × (Nat → Int32) × (Nat → Int32) × (Nat → Int32)) => match z_31 with
  | (x1_5, w0_colours_6, w0_tints_7, w0_attempt_8) =>
  if (12 : Int32) ≤ x1_5 then (
    gL (fun (k_66 : (Int32 × (Nat → Int32)) → Option (Int32 × Int32 × Int32 × Int32 × Int32 × Int32 × Int32 × (Nat → Int32) × (Nat → Int32) × (Nat → Int32) × (Nat → Int32))) (z_66 : Int32 × (Nat → Int32)) => match z_66 with
    | (x1_10, w0_shades_11) =>
    if (40 : Int32) ≤ x1_10 then (
      some (0, 0, 0, 0, 0, v0_hasPolynomial_1, v0_hasLists_2, w0_colours_6, w0_shades_11, w0_tints_7, w0_attempt_8)
    ) else (
      gC (inb x1_10 40) (
      gB (x1_10 + 1) (fun x1_14 =>
      k_66 (x1_14, upd w0_shades_11 x1_10.toNatClampNeg (-1))))
    )
    ) F (0, w0_shades)
  ) else (
    gC (inb x1_5 12) (
    gC (inb x1_5 12) (
    gC (inb x1_5 12) (
    gB (x1_5 + 1) (fun x1_18 =>
    k_31 (x1_18, upd w0_colours_6 x1_5.toNatClampNeg (-1), upd w0_tints_7 x1_5.toNatClampNeg (-1), upd w0_attempt_8 x1_5.toNatClampNeg (-1))))))
  )
  ) F (0, w0_colours, w0_tints, w0_attempt))
set_option maxHeartbeats 4000000 in
set_option maxRecDepth 100000 in
theorem c_Mo_clear (l : Launch) (dC : Nat → ClassId) (dI : Nat → Nat → Nat) (cI cJ cG cZ : ClassId) (a0 a0_from a0_to a0_near a0_lists a0_colours a0_shades a0_tints a0_attempt a0_taken a0_isApart a0_ways a0_next a0_splits a0_powers a0_row a0_many a0_can a0_could a0_arcRow a0_order a0_isOut : Nat) (sz : Nat) (F : Nat) (v0_thrown : Int32) (v0_nodes : Int32) (v0_arcs : Int32) (v0_takenMany : Int32) (v0_leftBits : Int32) (v0_hasPolynomial : Int32) (v0_hasLists : Int32) (w0_colours : Nat → Int32) (w0_shades : Nat → Int32) (w0_tints : Nat → Int32) (w0_attempt : Nat → Int32) (o_v0_thrown : Int32) (o_v0_nodes : Int32) (o_v0_arcs : Int32) (o_v0_takenMany : Int32) (o_v0_leftBits : Int32) (o_v0_hasPolynomial : Int32) (o_v0_hasLists : Int32) (o_w0_colours : Nat → Int32) (o_w0_shades : Nat → Int32) (o_w0_tints : Nat → Int32) (o_w0_attempt : Nat → Int32) (hm : m_Mo_clear F v0_thrown v0_nodes v0_arcs v0_takenMany v0_leftBits v0_hasPolynomial v0_hasLists w0_colours w0_shades w0_tints w0_attempt = some (o_v0_thrown, o_v0_nodes, o_v0_arcs, o_v0_takenMany, o_v0_leftBits, o_v0_hasPolynomial, o_v0_hasLists, o_w0_colours, o_w0_shades, o_w0_tints, o_w0_attempt)) : Met l y_Mo_clear us_Mo_clear rm_Mo_clear (PcS (dC, dI) (tyL cI cJ cG cZ) [.ref a0] sz (wd_Mo_clear cI cJ cG cZ a0 a0_from a0_to a0_near a0_lists a0_colours a0_shades a0_tints a0_attempt a0_taken a0_isApart a0_ways a0_next a0_splits a0_powers a0_row a0_many a0_can a0_could a0_arcRow a0_order a0_isOut v0_thrown v0_nodes v0_arcs v0_takenMany v0_leftBits v0_hasPolynomial v0_hasLists w0_colours w0_shades w0_tints w0_attempt)) (va_Qv (fun (_ : Unit) => True) (fun _ t => PoS (dC, dI) (tyL cI cJ cG cZ) (wd_Mo_clear cI cJ cG cZ a0 a0_from a0_to a0_near a0_lists a0_colours a0_shades a0_tints a0_attempt a0_taken a0_isApart a0_ways a0_next a0_splits a0_powers a0_row a0_many a0_can a0_could a0_arcRow a0_order a0_isOut o_v0_thrown o_v0_nodes o_v0_arcs o_v0_takenMany o_v0_leftBits o_v0_hasPolynomial o_v0_hasLists o_w0_colours o_w0_shades o_w0_tints o_w0_attempt) (va_A (wd_Mo_clear cI cJ cG cZ a0 a0_from a0_to a0_near a0_lists a0_colours a0_shades a0_tints a0_attempt a0_taken a0_isApart a0_ways a0_next a0_splits a0_powers a0_row a0_many a0_can a0_could a0_arcRow a0_order a0_isOut v0_thrown v0_nodes v0_arcs v0_takenMany v0_leftBits v0_hasPolynomial v0_hasLists w0_colours w0_shades w0_tints w0_attempt) sz) t) (va_A (wd_Mo_clear cI cJ cG cZ a0 a0_from a0_to a0_near a0_lists a0_colours a0_shades a0_tints a0_attempt a0_taken a0_isApart a0_ways a0_next a0_splits a0_powers a0_row a0_many a0_can a0_could a0_arcRow a0_order a0_isOut v0_thrown v0_nodes v0_arcs v0_takenMany v0_leftBits v0_hasPolynomial v0_hasLists w0_colours w0_shades w0_tints w0_attempt) sz)) 0 0 (va_A (wd_Mo_clear cI cJ cG cZ a0 a0_from a0_to a0_near a0_lists a0_colours a0_shades a0_tints a0_attempt a0_taken a0_isApart a0_ways a0_next a0_splits a0_powers a0_row a0_many a0_can a0_could a0_arcRow a0_order a0_isOut v0_thrown v0_nodes v0_arcs v0_takenMany v0_leftBits v0_hasPolynomial v0_hasLists w0_colours w0_shades w0_tints w0_attempt) sz) := by
  refine Met.ofW (cc := prog_10_method_3_code) (maxL := 2) (ret := none) (by decide) rfl ?_
  intro p e s m args below meth c s₁ B hml hv
  obtain ⟨rfl, hsz, hP, hK, hD0, hNw⟩ := hv
  have hx := B.exec
  have hb := B.bytes
  have hr := B.returns
  have htt : ∀ w ∈ gtbl, w.before _ s = true := fun w h => atoms_spec (ws := us_Mo_clear) B.pre w (List.mem_cons_of_mem _ h)
  have hown : s.vm.findClass R_Mo = some m.cls := findClass_of_methodNamed B.named
  have hlocks := B.notSynchronized
  subst hsz
  have hD := hD0.self (sz := s.heap.size)
  generalize hAe : va_A (wd_Mo_clear cI cJ cG cZ a0 a0_from a0_to a0_near a0_lists a0_colours a0_shades a0_tints a0_attempt a0_taken a0_isApart a0_ways a0_next a0_splits a0_powers a0_row a0_many a0_can a0_could a0_arcRow a0_order a0_isOut v0_thrown v0_nodes v0_arcs v0_takenMany v0_leftBits v0_hasPolynomial v0_hasLists w0_colours w0_shades w0_tints w0_attempt) s.heap.size = A at hD ⊢
  have hA : ∀ q : Nat, s.heap.size ≤ q → A q := fun q h => by rw [← hAe]; exact Or.inr h
  clear hAe hD0
  have hS : va_S A s.heap s.heap [] := va_S.rf
  have hl := lv_entry ([.ref a0]) (n := 2) (Nat.le_of_ble_eq_true rfl)
  rw [lg_entry_eq]
  generalize (lg_sl ([.ref a0]) ++ List.replicate (2 - (lg_sl ([.ref a0])).length) Slot.unset).toArray = ls at hl ⊢
  have hl : lv_has ls 2 [(0, .ref a0)] := hl
  generalize hH : s.heap = H at hP ⊢
  have hS : va_S A s.heap H [] := hH ▸ hS
  generalize hLo : ([] : List Loc) = locs at hS ⊢
  clear hH hLo
  unfold m_Mo_clear at hm
  refine lv_aload_n hx hb d_Mo_clear_0 rfl (lv_at hl 0 rfl) ?_
  refine lv_iconst (v := 0) hx hb d_Mo_clear_1 (by decide) ?_
  refine va_put (D := (dC, dI)) (ci := 8) (v := .int 0) (ty := .int) (C := R_Mo) (T := T_Mo) (N := 28) hx hb htt hin_Mo ty_Mo tyok_Mo nm_Mo hown hK hP hD hS 0 rfl rfl 0 (by decide) (htt _ kt_769) (fun _ h9 => h9) rfl (by decide +kernel) rfl rfl (Nat.le_of_ble_eq_true rfl) d_Mo_clear_2 (fun H locs hP hD hS => ?_)
  have hP : va_P (dC, dI) vwCl (wd_Mo_clear cI cJ cG cZ a0 a0_from a0_to a0_near a0_lists a0_colours a0_shades a0_tints a0_attempt a0_taken a0_isApart a0_ways a0_next a0_splits a0_powers a0_row a0_many a0_can a0_could a0_arcRow a0_order a0_isOut 0 v0_nodes v0_arcs v0_takenMany v0_leftBits v0_hasPolynomial v0_hasLists w0_colours w0_shades w0_tints w0_attempt) H := hP
  have hD : va_D A (wd_Mo_clear cI cJ cG cZ a0 a0_from a0_to a0_near a0_lists a0_colours a0_shades a0_tints a0_attempt a0_taken a0_isApart a0_ways a0_next a0_splits a0_powers a0_row a0_many a0_can a0_could a0_arcRow a0_order a0_isOut 0 v0_nodes v0_arcs v0_takenMany v0_leftBits v0_hasPolynomial v0_hasLists w0_colours w0_shades w0_tints w0_attempt) := hD
  refine lv_aload_n hx hb d_Mo_clear_5 rfl (lv_at hl 0 rfl) ?_
  obtain ⟨⟨v0_hasPolynomial_1, v0_hasLists_2⟩, hc_3, hm⟩ := gM_e hm
  dsimp only at hm
  have hPc : va_P (dC, dI) vwCl (wd_Mo_changed cI cJ cG cZ a0 a0_from a0_to a0_near a0_lists a0_colours a0_shades a0_tints a0_attempt a0_taken a0_isApart a0_ways a0_next a0_splits a0_powers a0_row a0_many a0_can a0_could a0_arcRow a0_order a0_isOut 0 v0_nodes v0_arcs v0_takenMany v0_leftBits v0_hasPolynomial v0_hasLists) H := hP.sub [0] rfl
  have hDc : va_D A (wd_Mo_changed cI cJ cG cZ a0 a0_from a0_to a0_near a0_lists a0_colours a0_shades a0_tints a0_attempt a0_taken a0_isApart a0_ways a0_next a0_splits a0_powers a0_row a0_many a0_can a0_could a0_arcRow a0_order a0_isOut 0 v0_nodes v0_arcs v0_takenMany v0_leftBits v0_hasPolynomial v0_hasLists) := hD.sub [0] (by decide) rfl
  have hFc : ∀ q, va_A (wd_Mo_changed cI cJ cG cZ a0 a0_from a0_to a0_near a0_lists a0_colours a0_shades a0_tints a0_attempt a0_taken a0_isApart a0_ways a0_next a0_splits a0_powers a0_row a0_many a0_can a0_could a0_arcRow a0_order a0_isOut 0 v0_nodes v0_arcs v0_takenMany v0_leftBits v0_hasPolynomial v0_hasLists) H.size q → A q := va_free hD hS hA [0] rfl
  refine va_callv (va_runV (As := []) (rest := []) ⟨hx, hb, hml, hown, htt⟩ (c_Mo_changed l dC dI cI cJ cG cZ a0 a0_from a0_to a0_near a0_lists a0_colours a0_shades a0_tints a0_attempt a0_taken a0_isApart a0_ways a0_next a0_splits a0_powers a0_row a0_many a0_can a0_could a0_arcRow a0_order a0_isOut H.size F 0 v0_nodes v0_arcs v0_takenMany v0_leftBits v0_hasPolynomial v0_hasLists v0_hasPolynomial_1 v0_hasLists_2 hc_3) (cwV 0 htt (gdV kt_765 kt_767 kp_42 kt_10 kt_768) rfl rfl rfl (by decide +kernel) ⟨(Nat.le_of_ble_eq_true rfl), (Nat.le_of_ble_eq_true rfl)⟩) ⟨PcS_blind, va_recv hK hPc (ci := 8) (q0 := 0) rfl rfl, PcS_in hPc hK hDc hNw⟩ rfl rfl hl.1 rfl (lv_room (Nat.le_of_ble_eq_true rfl)) d_Mo_clear_6 ⟨Nat.zero_le _, Nat.zero_le _⟩) hS (fun q _ h => hFc q h) hFc (fun u t H1 locs ht hvm hw hB hz1 hk1 hS => ?_)
  obtain ⟨hP1, hK1, hD1⟩ := hB
  rw [ht] at hP1
  obtain ⟨hP, hD⟩ := va_join (wr := [(a0_colours, .inl (cI, 12, .inl w0_colours)), (a0_shades, .inl (cI, 40, .inl w0_shades)), (a0_tints, .inl (cI, 12, .inl w0_tints)), (a0_attempt, .inl (cI, 12, .inl w0_attempt))]) (w1 := (wd_Mo_changed cI cJ cG cZ a0 a0_from a0_to a0_near a0_lists a0_colours a0_shades a0_tints a0_attempt a0_taken a0_isApart a0_ways a0_next a0_splits a0_powers a0_row a0_many a0_can a0_could a0_arcRow a0_order a0_isOut 0 v0_nodes v0_arcs v0_takenMany v0_leftBits v0_hasPolynomial_1 v0_hasLists_2)) hP hD [0] [1, 2, 3, 4] rfl rfl (by decide) (by decide) hk1 hFc hP1 hD1
  have hP : va_P (dC, dI) vwCl (wd_Mo_clear cI cJ cG cZ a0 a0_from a0_to a0_near a0_lists a0_colours a0_shades a0_tints a0_attempt a0_taken a0_isApart a0_ways a0_next a0_splits a0_powers a0_row a0_many a0_can a0_could a0_arcRow a0_order a0_isOut 0 v0_nodes v0_arcs v0_takenMany v0_leftBits v0_hasPolynomial_1 v0_hasLists_2 w0_colours w0_shades w0_tints w0_attempt) H1 := hP.sub [4, 0, 1, 2, 3] rfl
  have hD : va_D A (wd_Mo_clear cI cJ cG cZ a0 a0_from a0_to a0_near a0_lists a0_colours a0_shades a0_tints a0_attempt a0_taken a0_isApart a0_ways a0_next a0_splits a0_powers a0_row a0_many a0_can a0_could a0_arcRow a0_order a0_isOut 0 v0_nodes v0_arcs v0_takenMany v0_leftBits v0_hasPolynomial_1 v0_hasLists_2 w0_colours w0_shades w0_tints w0_attempt) := hD.sub [4, 0, 1, 2, 3] (by decide) rfl
  clear hP1 hK1 hD1 hk1 hPc hDc hFc ht hvm hz1
  generalize H1 = H at hP hS ⊢
  refine lv_aload_n hx hb d_Mo_clear_9 rfl (lv_at hl 0 rfl) ?_
  refine lv_iconst (v := 0) hx hb d_Mo_clear_10 (by decide) ?_
  refine va_put (D := (dC, dI)) (ci := 8) (v := .int 0) (ty := .int) (C := R_Mo) (T := T_Mo) (N := 28) hx hb htt hin_Mo ty_Mo tyok_Mo nm_Mo hown hK hP hD hS 0 rfl rfl 1 (by decide) (htt _ kt_770) (fun _ h9 => h9) rfl (by decide +kernel) rfl rfl (Nat.le_of_ble_eq_true rfl) d_Mo_clear_11 (fun H locs hP hD hS => ?_)
  have hP : va_P (dC, dI) vwCl (wd_Mo_clear cI cJ cG cZ a0 a0_from a0_to a0_near a0_lists a0_colours a0_shades a0_tints a0_attempt a0_taken a0_isApart a0_ways a0_next a0_splits a0_powers a0_row a0_many a0_can a0_could a0_arcRow a0_order a0_isOut 0 0 v0_arcs v0_takenMany v0_leftBits v0_hasPolynomial_1 v0_hasLists_2 w0_colours w0_shades w0_tints w0_attempt) H := hP
  have hD : va_D A (wd_Mo_clear cI cJ cG cZ a0 a0_from a0_to a0_near a0_lists a0_colours a0_shades a0_tints a0_attempt a0_taken a0_isApart a0_ways a0_next a0_splits a0_powers a0_row a0_many a0_can a0_could a0_arcRow a0_order a0_isOut 0 0 v0_arcs v0_takenMany v0_leftBits v0_hasPolynomial_1 v0_hasLists_2 w0_colours w0_shades w0_tints w0_attempt) := hD
  refine lv_aload_n hx hb d_Mo_clear_14 rfl (lv_at hl 0 rfl) ?_
  refine lv_iconst (v := 0) hx hb d_Mo_clear_15 (by decide) ?_
  refine va_put (D := (dC, dI)) (ci := 8) (v := .int 0) (ty := .int) (C := R_Mo) (T := T_Mo) (N := 28) hx hb htt hin_Mo ty_Mo tyok_Mo nm_Mo hown hK hP hD hS 0 rfl rfl 2 (by decide) (htt _ kt_771) (fun _ h9 => h9) rfl (by decide +kernel) rfl rfl (Nat.le_of_ble_eq_true rfl) d_Mo_clear_16 (fun H locs hP hD hS => ?_)
  have hP : va_P (dC, dI) vwCl (wd_Mo_clear cI cJ cG cZ a0 a0_from a0_to a0_near a0_lists a0_colours a0_shades a0_tints a0_attempt a0_taken a0_isApart a0_ways a0_next a0_splits a0_powers a0_row a0_many a0_can a0_could a0_arcRow a0_order a0_isOut 0 0 0 v0_takenMany v0_leftBits v0_hasPolynomial_1 v0_hasLists_2 w0_colours w0_shades w0_tints w0_attempt) H := hP
  have hD : va_D A (wd_Mo_clear cI cJ cG cZ a0 a0_from a0_to a0_near a0_lists a0_colours a0_shades a0_tints a0_attempt a0_taken a0_isApart a0_ways a0_next a0_splits a0_powers a0_row a0_many a0_can a0_could a0_arcRow a0_order a0_isOut 0 0 0 v0_takenMany v0_leftBits v0_hasPolynomial_1 v0_hasLists_2 w0_colours w0_shades w0_tints w0_attempt) := hD
  refine lv_aload_n hx hb d_Mo_clear_19 rfl (lv_at hl 0 rfl) ?_
  refine lv_iconst (v := 0) hx hb d_Mo_clear_20 (by decide) ?_
  refine va_put (D := (dC, dI)) (ci := 8) (v := .int 0) (ty := .int) (C := R_Mo) (T := T_Mo) (N := 28) hx hb htt hin_Mo ty_Mo tyok_Mo nm_Mo hown hK hP hD hS 0 rfl rfl 11 (by decide) (htt _ kt_780) (fun _ h9 => h9) rfl (by decide +kernel) rfl rfl (Nat.le_of_ble_eq_true rfl) d_Mo_clear_21 (fun H locs hP hD hS => ?_)
  have hP : va_P (dC, dI) vwCl (wd_Mo_clear cI cJ cG cZ a0 a0_from a0_to a0_near a0_lists a0_colours a0_shades a0_tints a0_attempt a0_taken a0_isApart a0_ways a0_next a0_splits a0_powers a0_row a0_many a0_can a0_could a0_arcRow a0_order a0_isOut 0 0 0 0 v0_leftBits v0_hasPolynomial_1 v0_hasLists_2 w0_colours w0_shades w0_tints w0_attempt) H := hP
  have hD : va_D A (wd_Mo_clear cI cJ cG cZ a0 a0_from a0_to a0_near a0_lists a0_colours a0_shades a0_tints a0_attempt a0_taken a0_isApart a0_ways a0_next a0_splits a0_powers a0_row a0_many a0_can a0_could a0_arcRow a0_order a0_isOut 0 0 0 0 v0_leftBits v0_hasPolynomial_1 v0_hasLists_2 w0_colours w0_shades w0_tints w0_attempt) := hD
  refine lv_aload_n hx hb d_Mo_clear_24 rfl (lv_at hl 0 rfl) ?_
  refine lv_iconst (v := 0) hx hb d_Mo_clear_25 (by decide) ?_
  refine va_put (D := (dC, dI)) (ci := 8) (v := .int 0) (ty := .int) (C := R_Mo) (T := T_Mo) (N := 28) hx hb htt hin_Mo ty_Mo tyok_Mo nm_Mo hown hK hP hD hS 0 rfl rfl 13 (by decide) (htt _ kt_782) (fun _ h9 => h9) rfl (by decide +kernel) rfl rfl (Nat.le_of_ble_eq_true rfl) d_Mo_clear_26 (fun H locs hP hD hS => ?_)
  have hP : va_P (dC, dI) vwCl (wd_Mo_clear cI cJ cG cZ a0 a0_from a0_to a0_near a0_lists a0_colours a0_shades a0_tints a0_attempt a0_taken a0_isApart a0_ways a0_next a0_splits a0_powers a0_row a0_many a0_can a0_could a0_arcRow a0_order a0_isOut 0 0 0 0 0 v0_hasPolynomial_1 v0_hasLists_2 w0_colours w0_shades w0_tints w0_attempt) H := hP
  have hD : va_D A (wd_Mo_clear cI cJ cG cZ a0 a0_from a0_to a0_near a0_lists a0_colours a0_shades a0_tints a0_attempt a0_taken a0_isApart a0_ways a0_next a0_splits a0_powers a0_row a0_many a0_can a0_could a0_arcRow a0_order a0_isOut 0 0 0 0 0 v0_hasPolynomial_1 v0_hasLists_2 w0_colours w0_shades w0_tints w0_attempt) := hD
  refine lv_iconst (v := 0) hx hb d_Mo_clear_29 (by decide) ?_
  refine lv_istore_n (lv' := [(1, .int 0), (0, .ref a0)]) hx hb d_Mo_clear_30 rfl hl (by decide) rfl (fun ls hl => ?_)
  refine gL_e (P := (fun (z_31 : Int32 × (Nat → Int32) × (Nat → Int32) × (Nat → Int32)) => ∀ (x1_5 : Int32), ∀ (w0_colours_6 : Nat → Int32), ∀ (w0_tints_7 : Nat → Int32), ∀ (w0_attempt_8 : Nat → Int32), z_31 = (x1_5, w0_colours_6, w0_tints_7, w0_attempt_8) → ∀ (ls : Array Slot) (H : Heap) (locs : List Loc), lv_has ls 2 [(0, .ref a0), (1, .int x1_5)] → va_P (dC, dI) vwCl (wd_Mo_clear cI cJ cG cZ a0 a0_from a0_to a0_near a0_lists a0_colours a0_shades a0_tints a0_attempt a0_taken a0_isApart a0_ways a0_next a0_splits a0_powers a0_row a0_many a0_can a0_could a0_arcRow a0_order a0_isOut 0 0 0 0 0 v0_hasPolynomial_1 v0_hasLists_2 w0_colours_6 w0_shades w0_tints_7 w0_attempt_8) H → va_D A (wd_Mo_clear cI cJ cG cZ a0 a0_from a0_to a0_near a0_lists a0_colours a0_shades a0_tints a0_attempt a0_taken a0_isApart a0_ways a0_next a0_splits a0_powers a0_row a0_many a0_can a0_could a0_arcRow a0_order a0_isOut 0 0 0 0 0 v0_hasPolynomial_1 v0_hasLists_2 w0_colours_6 w0_shades w0_tints_7 w0_attempt_8) → va_S A s.heap H locs → W p l e (headSpec us_Mo_clear rm_Mo_clear).room s m ([.ref a0] : List Value).toArray below meth c H locs 0 0 (MQ below (va_Qv (fun (_ : Unit) => True) (fun _ t => PoS (dC, dI) (tyL cI cJ cG cZ) (wd_Mo_clear cI cJ cG cZ a0 a0_from a0_to a0_near a0_lists a0_colours a0_shades a0_tints a0_attempt a0_taken a0_isApart a0_ways a0_next a0_splits a0_powers a0_row a0_many a0_can a0_could a0_arcRow a0_order a0_isOut o_v0_thrown o_v0_nodes o_v0_arcs o_v0_takenMany o_v0_leftBits o_v0_hasPolynomial o_v0_hasLists o_w0_colours o_w0_shades o_w0_tints o_w0_attempt) A t) A) ([.ref a0] : List Value).toArray s 0 0 A) (F0 m 31 ls []))) hm (fun k_31 z_31 ih_31 hm => ?_) _ _ _ _ rfl ls H locs (lv_sub hl [1, 0] rfl) hP hD hS
  intro x1_5 w0_colours_6 w0_tints_7 w0_attempt_8 hz ls H locs hl hP hD hS
  subst hz
  dsimp only at hm
  refine lv_iload_n hx hb d_Mo_clear_31 rfl (lv_at hl 1 rfl) ?_
  refine lv_bipush (v := 12) hx hb d_Mo_clear_32 (by decide) ?_
  refine lv_icmp_ge (tgt := 64) hx hb d_Mo_clear_34 (by decide) (fun c_9 => ?_) (fun c_9 => ?_)
  · have hm := ite_t c_9 hm
    refine lv_iconst (v := 0) hx hb d_Mo_clear_64 (by decide) ?_
    refine lv_istore_n (lv' := [(1, .int 0), (0, .ref a0)]) hx hb d_Mo_clear_65 rfl hl (by decide) rfl (fun ls hl => ?_)
    refine gL_e (P := (fun (z_66 : Int32 × (Nat → Int32)) => ∀ (x1_10 : Int32), ∀ (w0_shades_11 : Nat → Int32), z_66 = (x1_10, w0_shades_11) → ∀ (ls : Array Slot) (H : Heap) (locs : List Loc), lv_has ls 2 [(0, .ref a0), (1, .int x1_10)] → va_P (dC, dI) vwCl (wd_Mo_clear cI cJ cG cZ a0 a0_from a0_to a0_near a0_lists a0_colours a0_shades a0_tints a0_attempt a0_taken a0_isApart a0_ways a0_next a0_splits a0_powers a0_row a0_many a0_can a0_could a0_arcRow a0_order a0_isOut 0 0 0 0 0 v0_hasPolynomial_1 v0_hasLists_2 w0_colours_6 w0_shades_11 w0_tints_7 w0_attempt_8) H → va_D A (wd_Mo_clear cI cJ cG cZ a0 a0_from a0_to a0_near a0_lists a0_colours a0_shades a0_tints a0_attempt a0_taken a0_isApart a0_ways a0_next a0_splits a0_powers a0_row a0_many a0_can a0_could a0_arcRow a0_order a0_isOut 0 0 0 0 0 v0_hasPolynomial_1 v0_hasLists_2 w0_colours_6 w0_shades_11 w0_tints_7 w0_attempt_8) → va_S A s.heap H locs → W p l e (headSpec us_Mo_clear rm_Mo_clear).room s m ([.ref a0] : List Value).toArray below meth c H locs 0 0 (MQ below (va_Qv (fun (_ : Unit) => True) (fun _ t => PoS (dC, dI) (tyL cI cJ cG cZ) (wd_Mo_clear cI cJ cG cZ a0 a0_from a0_to a0_near a0_lists a0_colours a0_shades a0_tints a0_attempt a0_taken a0_isApart a0_ways a0_next a0_splits a0_powers a0_row a0_many a0_can a0_could a0_arcRow a0_order a0_isOut o_v0_thrown o_v0_nodes o_v0_arcs o_v0_takenMany o_v0_leftBits o_v0_hasPolynomial o_v0_hasLists o_w0_colours o_w0_shades o_w0_tints o_w0_attempt) A t) A) ([.ref a0] : List Value).toArray s 0 0 A) (F0 m 66 ls []))) hm (fun k_66 z_66 ih_66 hm => ?_) _ _ rfl ls H locs (lv_sub hl [1, 0] rfl) hP hD hS
    intro x1_10 w0_shades_11 hz ls H locs hl hP hD hS
    subst hz
    dsimp only at hm
    refine lv_iload_n hx hb d_Mo_clear_66 rfl (lv_at hl 1 rfl) ?_
    refine lv_bipush (v := 40) hx hb d_Mo_clear_67 (by decide) ?_
    refine lv_icmp_ge (tgt := 85) hx hb d_Mo_clear_69 (by decide) (fun c_12 => ?_) (fun c_12 => ?_)
    · have hm := ite_t c_12 hm
      cases hm
      exact W.vret hx hb hr (fun t ht hW => ⟨⟨(), rfl, trivial, by rw [ht]; exact hP, va_K.moved hW.alike hK, hD⟩, hS.F ht⟩) hS.2.2 d_Mo_clear_85
    · have hm := ite_f c_12 hm
      refine lv_aload_n hx hb d_Mo_clear_72 rfl (lv_at hl 0 rfl) ?_
      refine va_get (D := (dC, dI)) (ci := 8) (v := .ref a0_shades) (C := R_Mo) (T := T_Mo) (N := 28) hx hb htt hin_Mo hown hK hP 0 rfl rfl 8 (by decide) (htt _ kt_777) (fun _ h9 => h9) rfl d_Mo_clear_73 ?_
      refine lv_iload_n hx hb d_Mo_clear_76 rfl (lv_at hl 1 rfl) ?_
      refine lv_iconst (v := (-1)) hx hb d_Mo_clear_77 (by decide) ?_
      obtain ⟨hi_13, hm⟩ := gC_e hm
      refine va_iast hx hb hK hP hD hS 2 0 rfl rfl (inb_vp hi_13) d_Mo_clear_78 (fun H locs hP hD hS => ?_)
      have hP : va_P (dC, dI) vwCl (wd_Mo_clear cI cJ cG cZ a0 a0_from a0_to a0_near a0_lists a0_colours a0_shades a0_tints a0_attempt a0_taken a0_isApart a0_ways a0_next a0_splits a0_powers a0_row a0_many a0_can a0_could a0_arcRow a0_order a0_isOut 0 0 0 0 0 v0_hasPolynomial_1 v0_hasLists_2 w0_colours_6 (upd w0_shades_11 x1_10.toNatClampNeg (-1)) w0_tints_7 w0_attempt_8) H := hP
      have hD : va_D A (wd_Mo_clear cI cJ cG cZ a0 a0_from a0_to a0_near a0_lists a0_colours a0_shades a0_tints a0_attempt a0_taken a0_isApart a0_ways a0_next a0_splits a0_powers a0_row a0_many a0_can a0_could a0_arcRow a0_order a0_isOut 0 0 0 0 0 v0_hasPolynomial_1 v0_hasLists_2 w0_colours_6 (upd w0_shades_11 x1_10.toNatClampNeg (-1)) w0_tints_7 w0_attempt_8) := hD
      obtain ⟨x1_14, ex1_14⟩ : ∃ y : Int32, y = x1_10 + 1 := ⟨_, rfl⟩
      have hm := gB_at ex1_14 hm
      refine lv_iinc (v := x1_14) (lv' := [(1, .int x1_14), (0, .ref a0)]) hx hb d_Mo_clear_79 hl (k := 1) rfl (by rw [ex1_14]; rfl) (by decide) rfl (fun ls hl => ?_)
      refine lv_goto (tgt := 66) hx hb d_Mo_clear_82 (by decide) ?_
      exact ih_66 _ hm _ _ rfl ls H locs (lv_sub hl [1, 0] rfl) hP hD hS
  · have hm := ite_f c_9 hm
    refine lv_aload_n hx hb d_Mo_clear_37 rfl (lv_at hl 0 rfl) ?_
    refine va_get (D := (dC, dI)) (ci := 8) (v := .ref a0_colours) (C := R_Mo) (T := T_Mo) (N := 28) hx hb htt hin_Mo hown hK hP 0 rfl rfl 7 (by decide) (htt _ kt_776) (fun _ h9 => h9) rfl d_Mo_clear_38 ?_
    refine lv_iload_n hx hb d_Mo_clear_41 rfl (lv_at hl 1 rfl) ?_
    refine lv_iconst (v := (-1)) hx hb d_Mo_clear_42 (by decide) ?_
    obtain ⟨hi_15, hm⟩ := gC_e hm
    refine va_iast hx hb hK hP hD hS 1 0 rfl rfl (inb_vp hi_15) d_Mo_clear_43 (fun H locs hP hD hS => ?_)
    have hP : va_P (dC, dI) vwCl (wd_Mo_clear cI cJ cG cZ a0 a0_from a0_to a0_near a0_lists a0_colours a0_shades a0_tints a0_attempt a0_taken a0_isApart a0_ways a0_next a0_splits a0_powers a0_row a0_many a0_can a0_could a0_arcRow a0_order a0_isOut 0 0 0 0 0 v0_hasPolynomial_1 v0_hasLists_2 (upd w0_colours_6 x1_5.toNatClampNeg (-1)) w0_shades w0_tints_7 w0_attempt_8) H := hP
    have hD : va_D A (wd_Mo_clear cI cJ cG cZ a0 a0_from a0_to a0_near a0_lists a0_colours a0_shades a0_tints a0_attempt a0_taken a0_isApart a0_ways a0_next a0_splits a0_powers a0_row a0_many a0_can a0_could a0_arcRow a0_order a0_isOut 0 0 0 0 0 v0_hasPolynomial_1 v0_hasLists_2 (upd w0_colours_6 x1_5.toNatClampNeg (-1)) w0_shades w0_tints_7 w0_attempt_8) := hD
    refine lv_aload_n hx hb d_Mo_clear_44 rfl (lv_at hl 0 rfl) ?_
    refine va_get (D := (dC, dI)) (ci := 8) (v := .ref a0_tints) (C := R_Mo) (T := T_Mo) (N := 28) hx hb htt hin_Mo hown hK hP 0 rfl rfl 9 (by decide) (htt _ kt_778) (fun _ h9 => h9) rfl d_Mo_clear_45 ?_
    refine lv_iload_n hx hb d_Mo_clear_48 rfl (lv_at hl 1 rfl) ?_
    refine lv_iconst (v := (-1)) hx hb d_Mo_clear_49 (by decide) ?_
    obtain ⟨hi_16, hm⟩ := gC_e hm
    refine va_iast hx hb hK hP hD hS 3 0 rfl rfl (inb_vp hi_16) d_Mo_clear_50 (fun H locs hP hD hS => ?_)
    have hP : va_P (dC, dI) vwCl (wd_Mo_clear cI cJ cG cZ a0 a0_from a0_to a0_near a0_lists a0_colours a0_shades a0_tints a0_attempt a0_taken a0_isApart a0_ways a0_next a0_splits a0_powers a0_row a0_many a0_can a0_could a0_arcRow a0_order a0_isOut 0 0 0 0 0 v0_hasPolynomial_1 v0_hasLists_2 (upd w0_colours_6 x1_5.toNatClampNeg (-1)) w0_shades (upd w0_tints_7 x1_5.toNatClampNeg (-1)) w0_attempt_8) H := hP
    have hD : va_D A (wd_Mo_clear cI cJ cG cZ a0 a0_from a0_to a0_near a0_lists a0_colours a0_shades a0_tints a0_attempt a0_taken a0_isApart a0_ways a0_next a0_splits a0_powers a0_row a0_many a0_can a0_could a0_arcRow a0_order a0_isOut 0 0 0 0 0 v0_hasPolynomial_1 v0_hasLists_2 (upd w0_colours_6 x1_5.toNatClampNeg (-1)) w0_shades (upd w0_tints_7 x1_5.toNatClampNeg (-1)) w0_attempt_8) := hD
    refine lv_aload_n hx hb d_Mo_clear_51 rfl (lv_at hl 0 rfl) ?_
    refine va_get (D := (dC, dI)) (ci := 8) (v := .ref a0_attempt) (C := R_Mo) (T := T_Mo) (N := 28) hx hb htt hin_Mo hown hK hP 0 rfl rfl 10 (by decide) (htt _ kt_779) (fun _ h9 => h9) rfl d_Mo_clear_52 ?_
    refine lv_iload_n hx hb d_Mo_clear_55 rfl (lv_at hl 1 rfl) ?_
    refine lv_iconst (v := (-1)) hx hb d_Mo_clear_56 (by decide) ?_
    obtain ⟨hi_17, hm⟩ := gC_e hm
    refine va_iast hx hb hK hP hD hS 4 0 rfl rfl (inb_vp hi_17) d_Mo_clear_57 (fun H locs hP hD hS => ?_)
    have hP : va_P (dC, dI) vwCl (wd_Mo_clear cI cJ cG cZ a0 a0_from a0_to a0_near a0_lists a0_colours a0_shades a0_tints a0_attempt a0_taken a0_isApart a0_ways a0_next a0_splits a0_powers a0_row a0_many a0_can a0_could a0_arcRow a0_order a0_isOut 0 0 0 0 0 v0_hasPolynomial_1 v0_hasLists_2 (upd w0_colours_6 x1_5.toNatClampNeg (-1)) w0_shades (upd w0_tints_7 x1_5.toNatClampNeg (-1)) (upd w0_attempt_8 x1_5.toNatClampNeg (-1))) H := hP
    have hD : va_D A (wd_Mo_clear cI cJ cG cZ a0 a0_from a0_to a0_near a0_lists a0_colours a0_shades a0_tints a0_attempt a0_taken a0_isApart a0_ways a0_next a0_splits a0_powers a0_row a0_many a0_can a0_could a0_arcRow a0_order a0_isOut 0 0 0 0 0 v0_hasPolynomial_1 v0_hasLists_2 (upd w0_colours_6 x1_5.toNatClampNeg (-1)) w0_shades (upd w0_tints_7 x1_5.toNatClampNeg (-1)) (upd w0_attempt_8 x1_5.toNatClampNeg (-1))) := hD
    obtain ⟨x1_18, ex1_18⟩ : ∃ y : Int32, y = x1_5 + 1 := ⟨_, rfl⟩
    have hm := gB_at ex1_18 hm
    refine lv_iinc (v := x1_18) (lv' := [(1, .int x1_18), (0, .ref a0)]) hx hb d_Mo_clear_58 hl (k := 1) rfl (by rw [ex1_18]; rfl) (by decide) rfl (fun ls hl => ?_)
    refine lv_goto (tgt := 31) hx hb d_Mo_clear_61 (by decide) ?_
    exact ih_31 _ hm _ _ _ _ rfl ls H locs (lv_sub hl [1, 0] rfl) hP hD hS
theorem d_Mo_isNode_0 : decode prog_10_method_4_code 0 = .ok (.iload_n 1, 1) := by decide +kernel
theorem d_Mo_isNode_1 : decode prog_10_method_4_code 1 = .ok (.ifCond .lt 15, 3) := by decide +kernel
theorem d_Mo_isNode_4 : decode prog_10_method_4_code 4 = .ok (.iload_n 1, 1) := by decide +kernel
theorem d_Mo_isNode_5 : decode prog_10_method_4_code 5 = .ok (.aload_n 0, 1) := by decide +kernel
theorem d_Mo_isNode_6 : decode prog_10_method_4_code 6 = .ok (.getfield 86, 3) := by decide +kernel
theorem d_Mo_isNode_9 : decode prog_10_method_4_code 9 = .ok (.if_icmp .ge 7, 3) := by decide +kernel
theorem d_Mo_isNode_12 : decode prog_10_method_4_code 12 = .ok (.iconst 1, 1) := by decide +kernel
theorem d_Mo_isNode_13 : decode prog_10_method_4_code 13 = .ok (.goto 4, 3) := by decide +kernel
theorem d_Mo_isNode_16 : decode prog_10_method_4_code 16 = .ok (.iconst 0, 1) := by decide +kernel
theorem d_Mo_isNode_17 : decode prog_10_method_4_code 17 = .ok (.ireturn, 1) := by decide +kernel
abbrev wd_Mo_isNode (cI cJ cG cZ : ClassId) (a0 a0_from a0_to a0_near a0_lists a0_colours a0_shades a0_tints a0_attempt a0_taken a0_isApart a0_ways a0_next a0_splits a0_powers a0_row a0_many a0_can a0_could a0_arcRow a0_order a0_isOut : Nat) (v0_thrown : Int32) (v0_nodes : Int32) (v0_arcs : Int32) (v0_takenMany : Int32) (v0_leftBits : Int32) (v0_hasPolynomial : Int32) (v0_hasLists : Int32) : va_W := [(a0, .inr (8, [.int v0_thrown, .int v0_nodes, .int v0_arcs, .ref a0_from, .ref a0_to, .ref a0_near, .ref a0_lists, .ref a0_colours, .ref a0_shades, .ref a0_tints, .ref a0_attempt, .int v0_takenMany, .ref a0_taken, .int v0_leftBits, .ref a0_isApart, .ref a0_ways, .ref a0_next, .ref a0_splits, .ref a0_powers, .ref a0_row, .ref a0_many, .int v0_hasPolynomial, .int v0_hasLists, .ref a0_can, .ref a0_could, .ref a0_arcRow, .ref a0_order, .ref a0_isOut]))]
abbrev us_Mo_isNode : List Cond := .code y_Mo_isNode prog_10_method_4_code 2 (some .boolean) :: gtbl
abbrev rm_Mo_isNode : Room := { frames := 0, cells := 0, slots := 0, locals := 0 }
def m_Mo_isNode (F : Nat) (v0_thrown : Int32) (v0_nodes : Int32) (v0_arcs : Int32) (v0_takenMany : Int32) (v0_leftBits : Int32) (v0_hasPolynomial : Int32) (v0_hasLists : Int32) (p1 : Int32) : Option (Int32) :=
  if p1 < 0 then (
    some 0
  ) else (
    if v0_nodes ≤ p1 then (
      some 0
    ) else (
      some 1
    )
  )
set_option maxHeartbeats 4000000 in
set_option maxRecDepth 100000 in
theorem c_Mo_isNode (l : Launch) (dC : Nat → ClassId) (dI : Nat → Nat → Nat) (cI cJ cG cZ : ClassId) (a0 a0_from a0_to a0_near a0_lists a0_colours a0_shades a0_tints a0_attempt a0_taken a0_isApart a0_ways a0_next a0_splits a0_powers a0_row a0_many a0_can a0_could a0_arcRow a0_order a0_isOut : Nat) (sz : Nat) (F : Nat) (v0_thrown : Int32) (v0_nodes : Int32) (v0_arcs : Int32) (v0_takenMany : Int32) (v0_leftBits : Int32) (v0_hasPolynomial : Int32) (v0_hasLists : Int32) (p1 : Int32) (ret : Int32) (hm : m_Mo_isNode F v0_thrown v0_nodes v0_arcs v0_takenMany v0_leftBits v0_hasPolynomial v0_hasLists p1 = some ret) : Met l y_Mo_isNode us_Mo_isNode rm_Mo_isNode (PcS (dC, dI) (tyL cI cJ cG cZ) [.ref a0, .int p1] sz (wd_Mo_isNode cI cJ cG cZ a0 a0_from a0_to a0_near a0_lists a0_colours a0_shades a0_tints a0_attempt a0_taken a0_isApart a0_ways a0_next a0_splits a0_powers a0_row a0_many a0_can a0_could a0_arcRow a0_order a0_isOut v0_thrown v0_nodes v0_arcs v0_takenMany v0_leftBits v0_hasPolynomial v0_hasLists)) (va_Qi (fun (r : Int32) (_ : Unit) => ret = r ∧ bz r) (fun _ t => PoS (dC, dI) (tyL cI cJ cG cZ) (wd_Mo_isNode cI cJ cG cZ a0 a0_from a0_to a0_near a0_lists a0_colours a0_shades a0_tints a0_attempt a0_taken a0_isApart a0_ways a0_next a0_splits a0_powers a0_row a0_many a0_can a0_could a0_arcRow a0_order a0_isOut v0_thrown v0_nodes v0_arcs v0_takenMany v0_leftBits v0_hasPolynomial v0_hasLists) (va_A (wd_Mo_isNode cI cJ cG cZ a0 a0_from a0_to a0_near a0_lists a0_colours a0_shades a0_tints a0_attempt a0_taken a0_isApart a0_ways a0_next a0_splits a0_powers a0_row a0_many a0_can a0_could a0_arcRow a0_order a0_isOut v0_thrown v0_nodes v0_arcs v0_takenMany v0_leftBits v0_hasPolynomial v0_hasLists) sz) t) (va_A (wd_Mo_isNode cI cJ cG cZ a0 a0_from a0_to a0_near a0_lists a0_colours a0_shades a0_tints a0_attempt a0_taken a0_isApart a0_ways a0_next a0_splits a0_powers a0_row a0_many a0_can a0_could a0_arcRow a0_order a0_isOut v0_thrown v0_nodes v0_arcs v0_takenMany v0_leftBits v0_hasPolynomial v0_hasLists) sz)) 0 0 (va_A (wd_Mo_isNode cI cJ cG cZ a0 a0_from a0_to a0_near a0_lists a0_colours a0_shades a0_tints a0_attempt a0_taken a0_isApart a0_ways a0_next a0_splits a0_powers a0_row a0_many a0_can a0_could a0_arcRow a0_order a0_isOut v0_thrown v0_nodes v0_arcs v0_takenMany v0_leftBits v0_hasPolynomial v0_hasLists) sz) := by
  refine Met.ofW (cc := prog_10_method_4_code) (maxL := 2) (ret := (some .boolean)) (by decide) rfl ?_
  intro p e s m args below meth c s₁ B hml hv
  obtain ⟨rfl, hsz, hP, hK, hD0, hNw⟩ := hv
  have hx := B.exec
  have hb := B.bytes
  have hr := B.returns
  have htt : ∀ w ∈ gtbl, w.before _ s = true := fun w h => atoms_spec (ws := us_Mo_isNode) B.pre w (List.mem_cons_of_mem _ h)
  have hown : s.vm.findClass R_Mo = some m.cls := findClass_of_methodNamed B.named
  have hlocks := B.notSynchronized
  subst hsz
  have hD := hD0.self (sz := s.heap.size)
  generalize hAe : va_A (wd_Mo_isNode cI cJ cG cZ a0 a0_from a0_to a0_near a0_lists a0_colours a0_shades a0_tints a0_attempt a0_taken a0_isApart a0_ways a0_next a0_splits a0_powers a0_row a0_many a0_can a0_could a0_arcRow a0_order a0_isOut v0_thrown v0_nodes v0_arcs v0_takenMany v0_leftBits v0_hasPolynomial v0_hasLists) s.heap.size = A at hD ⊢
  have hA : ∀ q : Nat, s.heap.size ≤ q → A q := fun q h => by rw [← hAe]; exact Or.inr h
  clear hAe hD0
  have hS : va_S A s.heap s.heap [] := va_S.rf
  have hl := lv_entry ([.ref a0, .int p1]) (n := 2) (Nat.le_of_ble_eq_true rfl)
  rw [lg_entry_eq]
  generalize (lg_sl ([.ref a0, .int p1]) ++ List.replicate (2 - (lg_sl ([.ref a0, .int p1])).length) Slot.unset).toArray = ls at hl ⊢
  have hl : lv_has ls 2 [(0, .ref a0), (1, .int p1)] := hl
  generalize hH : s.heap = H at hP ⊢
  have hS : va_S A s.heap H [] := hH ▸ hS
  generalize hLo : ([] : List Loc) = locs at hS ⊢
  clear hH hLo
  unfold m_Mo_isNode at hm
  refine lv_iload_n hx hb d_Mo_isNode_0 rfl (lv_at hl 1 rfl) ?_
  refine lv_if_lt (tgt := 16) hx hb d_Mo_isNode_1 (by decide) (fun c_1 => ?_) (fun c_1 => ?_)
  · have hm := ite_t c_1 hm
    refine lv_iconst (v := 0) hx hb d_Mo_isNode_16 (by decide) ?_
    cases hm
    exact W.zret (ty := .boolean) hx hb hr (bz_nar (by decide : bz 0)) (fun t ht hW => ⟨⟨_, (), rfl, ⟨rfl, (by decide : bz 0)⟩, by rw [ht]; exact hP, va_K.moved hW.alike hK, hD⟩, hS.F ht⟩) hS.2.2 d_Mo_isNode_17
  · have hm := ite_f c_1 hm
    refine lv_iload_n hx hb d_Mo_isNode_4 rfl (lv_at hl 1 rfl) ?_
    refine lv_aload_n hx hb d_Mo_isNode_5 rfl (lv_at hl 0 rfl) ?_
    refine va_get (D := (dC, dI)) (ci := 8) (v := .int v0_nodes) (C := R_Mo) (T := T_Mo) (N := 28) hx hb htt hin_Mo hown hK hP 0 rfl rfl 1 (by decide) (htt _ kt_770) (fun _ h9 => h9) rfl d_Mo_isNode_6 ?_
    refine lv_icmp_ge (tgt := 16) hx hb d_Mo_isNode_9 (by decide) (fun c_2 => ?_) (fun c_2 => ?_)
    · have hm := ite_t c_2 hm
      refine lv_iconst (v := 0) hx hb d_Mo_isNode_16 (by decide) ?_
      cases hm
      exact W.zret (ty := .boolean) hx hb hr (bz_nar (by decide : bz 0)) (fun t ht hW => ⟨⟨_, (), rfl, ⟨rfl, (by decide : bz 0)⟩, by rw [ht]; exact hP, va_K.moved hW.alike hK, hD⟩, hS.F ht⟩) hS.2.2 d_Mo_isNode_17
    · have hm := ite_f c_2 hm
      refine lv_iconst (v := 1) hx hb d_Mo_isNode_12 (by decide) ?_
      refine lv_goto (tgt := 17) hx hb d_Mo_isNode_13 (by decide) ?_
      cases hm
      exact W.zret (ty := .boolean) hx hb hr (bz_nar (by decide : bz 1)) (fun t ht hW => ⟨⟨_, (), rfl, ⟨rfl, (by decide : bz 1)⟩, by rw [ht]; exact hP, va_K.moved hW.alike hK, hD⟩, hS.F ht⟩) hS.2.2 d_Mo_isNode_17
theorem d_Mo_node_0 : decode prog_10_method_5_code 0 = .ok (.aload_n 0, 1) := by decide +kernel
theorem d_Mo_node_1 : decode prog_10_method_5_code 1 = .ok (.iconst 0, 1) := by decide +kernel
theorem d_Mo_node_2 : decode prog_10_method_5_code 2 = .ok (.putfield 79, 3) := by decide +kernel
theorem d_Mo_node_5 : decode prog_10_method_5_code 5 = .ok (.aload_n 0, 1) := by decide +kernel
theorem d_Mo_node_6 : decode prog_10_method_5_code 6 = .ok (.getfield 86, 3) := by decide +kernel
theorem d_Mo_node_9 : decode prog_10_method_5_code 9 = .ok (.bipush 12, 2) := by decide +kernel
theorem d_Mo_node_11 : decode prog_10_method_5_code 11 = .ok (.if_icmp .ne 5, 3) := by decide +kernel
theorem d_Mo_node_14 : decode prog_10_method_5_code 14 = .ok (.iconst (-1), 1) := by decide +kernel
theorem d_Mo_node_15 : decode prog_10_method_5_code 15 = .ok (.ireturn, 1) := by decide +kernel
theorem d_Mo_node_16 : decode prog_10_method_5_code 16 = .ok (.aload_n 0, 1) := by decide +kernel
theorem d_Mo_node_17 : decode prog_10_method_5_code 17 = .ok (.invokevirtual 83, 3) := by decide +kernel
theorem d_Mo_node_20 : decode prog_10_method_5_code 20 = .ok (.aload_n 0, 1) := by decide +kernel
theorem d_Mo_node_21 : decode prog_10_method_5_code 21 = .ok (.getfield 16, 3) := by decide +kernel
theorem d_Mo_node_24 : decode prog_10_method_5_code 24 = .ok (.aload_n 0, 1) := by decide +kernel
theorem d_Mo_node_25 : decode prog_10_method_5_code 25 = .ok (.getfield 86, 3) := by decide +kernel
theorem d_Mo_node_28 : decode prog_10_method_5_code 28 = .ok (.iconst 0, 1) := by decide +kernel
theorem d_Mo_node_29 : decode prog_10_method_5_code 29 = .ok (.iastore, 1) := by decide +kernel
theorem d_Mo_node_30 : decode prog_10_method_5_code 30 = .ok (.aload_n 0, 1) := by decide +kernel
theorem d_Mo_node_31 : decode prog_10_method_5_code 31 = .ok (.getfield 19, 3) := by decide +kernel
theorem d_Mo_node_34 : decode prog_10_method_5_code 34 = .ok (.aload_n 0, 1) := by decide +kernel
theorem d_Mo_node_35 : decode prog_10_method_5_code 35 = .ok (.getfield 86, 3) := by decide +kernel
theorem d_Mo_node_38 : decode prog_10_method_5_code 38 = .ok (.sipush 4095, 3) := by decide +kernel
theorem d_Mo_node_41 : decode prog_10_method_5_code 41 = .ok (.iastore, 1) := by decide +kernel
theorem d_Mo_node_42 : decode prog_10_method_5_code 42 = .ok (.aload_n 0, 1) := by decide +kernel
theorem d_Mo_node_43 : decode prog_10_method_5_code 43 = .ok (.dup, 1) := by decide +kernel
theorem d_Mo_node_44 : decode prog_10_method_5_code 44 = .ok (.getfield 86, 3) := by decide +kernel
theorem d_Mo_node_47 : decode prog_10_method_5_code 47 = .ok (.iconst 1, 1) := by decide +kernel
theorem d_Mo_node_48 : decode prog_10_method_5_code 48 = .ok (.iadd, 1) := by decide +kernel
theorem d_Mo_node_49 : decode prog_10_method_5_code 49 = .ok (.putfield 86, 3) := by decide +kernel
theorem d_Mo_node_52 : decode prog_10_method_5_code 52 = .ok (.aload_n 0, 1) := by decide +kernel
theorem d_Mo_node_53 : decode prog_10_method_5_code 53 = .ok (.getfield 86, 3) := by decide +kernel
theorem d_Mo_node_56 : decode prog_10_method_5_code 56 = .ok (.iconst 1, 1) := by decide +kernel
theorem d_Mo_node_57 : decode prog_10_method_5_code 57 = .ok (.isub, 1) := by decide +kernel
theorem d_Mo_node_58 : decode prog_10_method_5_code 58 = .ok (.ireturn, 1) := by decide +kernel
abbrev wd_Mo_node (cI cJ cG cZ : ClassId) (a0 a0_from a0_to a0_near a0_lists a0_colours a0_shades a0_tints a0_attempt a0_taken a0_isApart a0_ways a0_next a0_splits a0_powers a0_row a0_many a0_can a0_could a0_arcRow a0_order a0_isOut : Nat) (v0_thrown : Int32) (v0_nodes : Int32) (v0_arcs : Int32) (v0_takenMany : Int32) (v0_leftBits : Int32) (v0_hasPolynomial : Int32) (v0_hasLists : Int32) (w0_near : Nat → Int32) (w0_lists : Nat → Int32) : va_W := [(a0, .inr (8, [.int v0_thrown, .int v0_nodes, .int v0_arcs, .ref a0_from, .ref a0_to, .ref a0_near, .ref a0_lists, .ref a0_colours, .ref a0_shades, .ref a0_tints, .ref a0_attempt, .int v0_takenMany, .ref a0_taken, .int v0_leftBits, .ref a0_isApart, .ref a0_ways, .ref a0_next, .ref a0_splits, .ref a0_powers, .ref a0_row, .ref a0_many, .int v0_hasPolynomial, .int v0_hasLists, .ref a0_can, .ref a0_could, .ref a0_arcRow, .ref a0_order, .ref a0_isOut])), (a0_near, .inl (cI, 12, .inl w0_near)), (a0_lists, .inl (cI, 12, .inl w0_lists))]
abbrev us_Mo_node : List Cond := .code y_Mo_node prog_10_method_5_code 1 (some .int) :: gtbl
abbrev rm_Mo_node : Room := { frames := 1, cells := 0, slots := 0, locals := 20 }
def m_Mo_node (F : Nat) (v0_thrown : Int32) (v0_nodes : Int32) (v0_arcs : Int32) (v0_takenMany : Int32) (v0_leftBits : Int32) (v0_hasPolynomial : Int32) (v0_hasLists : Int32) (w0_near : Nat → Int32) (w0_lists : Nat → Int32) : Option (Int32 × Int32 × Int32 × Int32 × Int32 × (Nat → Int32) × (Nat → Int32)) :=
  if v0_nodes = (12 : Int32) then (
    some ((-1), 0, v0_nodes, v0_hasPolynomial, v0_hasLists, w0_near, w0_lists)
  ) else (
    gM (m_Mo_changed F 0 v0_nodes v0_arcs v0_takenMany v0_leftBits v0_hasPolynomial v0_hasLists) (fun (z_5 : Int32 × Int32) => match z_5 with
    | (v0_hasPolynomial_2, v0_hasLists_3) =>
    gC (inb v0_nodes 12) (
    gC (inb v0_nodes 12) (
    gB (v0_nodes + 1) (fun f_8 =>
    some (f_8 - 1, 0, f_8, v0_hasPolynomial_2, v0_hasLists_3, upd w0_near v0_nodes.toNatClampNeg 0, upd w0_lists v0_nodes.toNatClampNeg 4095)))))
  )
set_option maxHeartbeats 4000000 in
set_option maxRecDepth 100000 in
theorem c_Mo_node (l : Launch) (dC : Nat → ClassId) (dI : Nat → Nat → Nat) (cI cJ cG cZ : ClassId) (a0 a0_from a0_to a0_near a0_lists a0_colours a0_shades a0_tints a0_attempt a0_taken a0_isApart a0_ways a0_next a0_splits a0_powers a0_row a0_many a0_can a0_could a0_arcRow a0_order a0_isOut : Nat) (sz : Nat) (F : Nat) (v0_thrown : Int32) (v0_nodes : Int32) (v0_arcs : Int32) (v0_takenMany : Int32) (v0_leftBits : Int32) (v0_hasPolynomial : Int32) (v0_hasLists : Int32) (w0_near : Nat → Int32) (w0_lists : Nat → Int32) (ret : Int32) (o_v0_thrown : Int32) (o_v0_nodes : Int32) (o_v0_hasPolynomial : Int32) (o_v0_hasLists : Int32) (o_w0_near : Nat → Int32) (o_w0_lists : Nat → Int32) (hm : m_Mo_node F v0_thrown v0_nodes v0_arcs v0_takenMany v0_leftBits v0_hasPolynomial v0_hasLists w0_near w0_lists = some (ret, o_v0_thrown, o_v0_nodes, o_v0_hasPolynomial, o_v0_hasLists, o_w0_near, o_w0_lists)) : Met l y_Mo_node us_Mo_node rm_Mo_node (PcS (dC, dI) (tyL cI cJ cG cZ) [.ref a0] sz (wd_Mo_node cI cJ cG cZ a0 a0_from a0_to a0_near a0_lists a0_colours a0_shades a0_tints a0_attempt a0_taken a0_isApart a0_ways a0_next a0_splits a0_powers a0_row a0_many a0_can a0_could a0_arcRow a0_order a0_isOut v0_thrown v0_nodes v0_arcs v0_takenMany v0_leftBits v0_hasPolynomial v0_hasLists w0_near w0_lists)) (va_Qi (fun (r : Int32) (_ : Unit) => ret = r) (fun _ t => PoS (dC, dI) (tyL cI cJ cG cZ) (wd_Mo_node cI cJ cG cZ a0 a0_from a0_to a0_near a0_lists a0_colours a0_shades a0_tints a0_attempt a0_taken a0_isApart a0_ways a0_next a0_splits a0_powers a0_row a0_many a0_can a0_could a0_arcRow a0_order a0_isOut o_v0_thrown o_v0_nodes v0_arcs v0_takenMany v0_leftBits o_v0_hasPolynomial o_v0_hasLists o_w0_near o_w0_lists) (va_A (wd_Mo_node cI cJ cG cZ a0 a0_from a0_to a0_near a0_lists a0_colours a0_shades a0_tints a0_attempt a0_taken a0_isApart a0_ways a0_next a0_splits a0_powers a0_row a0_many a0_can a0_could a0_arcRow a0_order a0_isOut v0_thrown v0_nodes v0_arcs v0_takenMany v0_leftBits v0_hasPolynomial v0_hasLists w0_near w0_lists) sz) t) (va_A (wd_Mo_node cI cJ cG cZ a0 a0_from a0_to a0_near a0_lists a0_colours a0_shades a0_tints a0_attempt a0_taken a0_isApart a0_ways a0_next a0_splits a0_powers a0_row a0_many a0_can a0_could a0_arcRow a0_order a0_isOut v0_thrown v0_nodes v0_arcs v0_takenMany v0_leftBits v0_hasPolynomial v0_hasLists w0_near w0_lists) sz)) 0 0 (va_A (wd_Mo_node cI cJ cG cZ a0 a0_from a0_to a0_near a0_lists a0_colours a0_shades a0_tints a0_attempt a0_taken a0_isApart a0_ways a0_next a0_splits a0_powers a0_row a0_many a0_can a0_could a0_arcRow a0_order a0_isOut v0_thrown v0_nodes v0_arcs v0_takenMany v0_leftBits v0_hasPolynomial v0_hasLists w0_near w0_lists) sz) := by
  refine Met.ofW (cc := prog_10_method_5_code) (maxL := 1) (ret := (some .int)) (by decide) rfl ?_
  intro p e s m args below meth c s₁ B hml hv
  obtain ⟨rfl, hsz, hP, hK, hD0, hNw⟩ := hv
  have hx := B.exec
  have hb := B.bytes
  have hr := B.returns
  have htt : ∀ w ∈ gtbl, w.before _ s = true := fun w h => atoms_spec (ws := us_Mo_node) B.pre w (List.mem_cons_of_mem _ h)
  have hown : s.vm.findClass R_Mo = some m.cls := findClass_of_methodNamed B.named
  have hlocks := B.notSynchronized
  subst hsz
  have hD := hD0.self (sz := s.heap.size)
  generalize hAe : va_A (wd_Mo_node cI cJ cG cZ a0 a0_from a0_to a0_near a0_lists a0_colours a0_shades a0_tints a0_attempt a0_taken a0_isApart a0_ways a0_next a0_splits a0_powers a0_row a0_many a0_can a0_could a0_arcRow a0_order a0_isOut v0_thrown v0_nodes v0_arcs v0_takenMany v0_leftBits v0_hasPolynomial v0_hasLists w0_near w0_lists) s.heap.size = A at hD ⊢
  have hA : ∀ q : Nat, s.heap.size ≤ q → A q := fun q h => by rw [← hAe]; exact Or.inr h
  clear hAe hD0
  have hS : va_S A s.heap s.heap [] := va_S.rf
  have hl := lv_entry ([.ref a0]) (n := 1) (Nat.le_of_ble_eq_true rfl)
  rw [lg_entry_eq]
  generalize (lg_sl ([.ref a0]) ++ List.replicate (1 - (lg_sl ([.ref a0])).length) Slot.unset).toArray = ls at hl ⊢
  have hl : lv_has ls 1 [(0, .ref a0)] := hl
  generalize hH : s.heap = H at hP ⊢
  have hS : va_S A s.heap H [] := hH ▸ hS
  generalize hLo : ([] : List Loc) = locs at hS ⊢
  clear hH hLo
  unfold m_Mo_node at hm
  refine lv_aload_n hx hb d_Mo_node_0 rfl (lv_at hl 0 rfl) ?_
  refine lv_iconst (v := 0) hx hb d_Mo_node_1 (by decide) ?_
  refine va_put (D := (dC, dI)) (ci := 8) (v := .int 0) (ty := .int) (C := R_Mo) (T := T_Mo) (N := 28) hx hb htt hin_Mo ty_Mo tyok_Mo nm_Mo hown hK hP hD hS 0 rfl rfl 0 (by decide) (htt _ kt_769) (fun _ h9 => h9) rfl (by decide +kernel) rfl rfl (Nat.le_of_ble_eq_true rfl) d_Mo_node_2 (fun H locs hP hD hS => ?_)
  have hP : va_P (dC, dI) vwCl (wd_Mo_node cI cJ cG cZ a0 a0_from a0_to a0_near a0_lists a0_colours a0_shades a0_tints a0_attempt a0_taken a0_isApart a0_ways a0_next a0_splits a0_powers a0_row a0_many a0_can a0_could a0_arcRow a0_order a0_isOut 0 v0_nodes v0_arcs v0_takenMany v0_leftBits v0_hasPolynomial v0_hasLists w0_near w0_lists) H := hP
  have hD : va_D A (wd_Mo_node cI cJ cG cZ a0 a0_from a0_to a0_near a0_lists a0_colours a0_shades a0_tints a0_attempt a0_taken a0_isApart a0_ways a0_next a0_splits a0_powers a0_row a0_many a0_can a0_could a0_arcRow a0_order a0_isOut 0 v0_nodes v0_arcs v0_takenMany v0_leftBits v0_hasPolynomial v0_hasLists w0_near w0_lists) := hD
  refine lv_aload_n hx hb d_Mo_node_5 rfl (lv_at hl 0 rfl) ?_
  refine va_get (D := (dC, dI)) (ci := 8) (v := .int v0_nodes) (C := R_Mo) (T := T_Mo) (N := 28) hx hb htt hin_Mo hown hK hP 0 rfl rfl 1 (by decide) (htt _ kt_770) (fun _ h9 => h9) rfl d_Mo_node_6 ?_
  refine lv_bipush (v := 12) hx hb d_Mo_node_9 (by decide) ?_
  refine lv_icmp_ne (tgt := 16) hx hb d_Mo_node_11 (by decide) (fun c_1 => ?_) (fun c_1 => ?_)
  · have hm := ite_f c_1 hm
    refine lv_aload_n hx hb d_Mo_node_16 rfl (lv_at hl 0 rfl) ?_
    obtain ⟨⟨v0_hasPolynomial_2, v0_hasLists_3⟩, hc_4, hm⟩ := gM_e hm
    dsimp only at hm
    have hPc : va_P (dC, dI) vwCl (wd_Mo_changed cI cJ cG cZ a0 a0_from a0_to a0_near a0_lists a0_colours a0_shades a0_tints a0_attempt a0_taken a0_isApart a0_ways a0_next a0_splits a0_powers a0_row a0_many a0_can a0_could a0_arcRow a0_order a0_isOut 0 v0_nodes v0_arcs v0_takenMany v0_leftBits v0_hasPolynomial v0_hasLists) H := hP.sub [0] rfl
    have hDc : va_D A (wd_Mo_changed cI cJ cG cZ a0 a0_from a0_to a0_near a0_lists a0_colours a0_shades a0_tints a0_attempt a0_taken a0_isApart a0_ways a0_next a0_splits a0_powers a0_row a0_many a0_can a0_could a0_arcRow a0_order a0_isOut 0 v0_nodes v0_arcs v0_takenMany v0_leftBits v0_hasPolynomial v0_hasLists) := hD.sub [0] (by decide) rfl
    have hFc : ∀ q, va_A (wd_Mo_changed cI cJ cG cZ a0 a0_from a0_to a0_near a0_lists a0_colours a0_shades a0_tints a0_attempt a0_taken a0_isApart a0_ways a0_next a0_splits a0_powers a0_row a0_many a0_can a0_could a0_arcRow a0_order a0_isOut 0 v0_nodes v0_arcs v0_takenMany v0_leftBits v0_hasPolynomial v0_hasLists) H.size q → A q := va_free hD hS hA [0] rfl
    refine va_callv (va_runV (As := []) (rest := []) ⟨hx, hb, hml, hown, htt⟩ (c_Mo_changed l dC dI cI cJ cG cZ a0 a0_from a0_to a0_near a0_lists a0_colours a0_shades a0_tints a0_attempt a0_taken a0_isApart a0_ways a0_next a0_splits a0_powers a0_row a0_many a0_can a0_could a0_arcRow a0_order a0_isOut H.size F 0 v0_nodes v0_arcs v0_takenMany v0_leftBits v0_hasPolynomial v0_hasLists v0_hasPolynomial_2 v0_hasLists_3 hc_4) (cwV 0 htt (gdV kt_765 kt_767 kp_42 kt_10 kt_768) rfl rfl rfl (by decide +kernel) ⟨(Nat.le_of_ble_eq_true rfl), (Nat.le_of_ble_eq_true rfl)⟩) ⟨PcS_blind, va_recv hK hPc (ci := 8) (q0 := 0) rfl rfl, PcS_in hPc hK hDc hNw⟩ rfl rfl hl.1 rfl (lv_room (Nat.le_of_ble_eq_true rfl)) d_Mo_node_17 ⟨Nat.zero_le _, Nat.zero_le _⟩) hS (fun q _ h => hFc q h) hFc (fun u t H1 locs ht hvm hw hB hz1 hk1 hS => ?_)
    obtain ⟨hP1, hK1, hD1⟩ := hB
    rw [ht] at hP1
    obtain ⟨hP, hD⟩ := va_join (wr := [(a0_near, .inl (cI, 12, .inl w0_near)), (a0_lists, .inl (cI, 12, .inl w0_lists))]) (w1 := (wd_Mo_changed cI cJ cG cZ a0 a0_from a0_to a0_near a0_lists a0_colours a0_shades a0_tints a0_attempt a0_taken a0_isApart a0_ways a0_next a0_splits a0_powers a0_row a0_many a0_can a0_could a0_arcRow a0_order a0_isOut 0 v0_nodes v0_arcs v0_takenMany v0_leftBits v0_hasPolynomial_2 v0_hasLists_3)) hP hD [0] [1, 2] rfl rfl (by decide) (by decide) hk1 hFc hP1 hD1
    have hP : va_P (dC, dI) vwCl (wd_Mo_node cI cJ cG cZ a0 a0_from a0_to a0_near a0_lists a0_colours a0_shades a0_tints a0_attempt a0_taken a0_isApart a0_ways a0_next a0_splits a0_powers a0_row a0_many a0_can a0_could a0_arcRow a0_order a0_isOut 0 v0_nodes v0_arcs v0_takenMany v0_leftBits v0_hasPolynomial_2 v0_hasLists_3 w0_near w0_lists) H1 := hP.sub [2, 0, 1] rfl
    have hD : va_D A (wd_Mo_node cI cJ cG cZ a0 a0_from a0_to a0_near a0_lists a0_colours a0_shades a0_tints a0_attempt a0_taken a0_isApart a0_ways a0_next a0_splits a0_powers a0_row a0_many a0_can a0_could a0_arcRow a0_order a0_isOut 0 v0_nodes v0_arcs v0_takenMany v0_leftBits v0_hasPolynomial_2 v0_hasLists_3 w0_near w0_lists) := hD.sub [2, 0, 1] (by decide) rfl
    clear hP1 hK1 hD1 hk1 hPc hDc hFc ht hvm hz1
    generalize H1 = H at hP hS ⊢
    refine lv_aload_n hx hb d_Mo_node_20 rfl (lv_at hl 0 rfl) ?_
    refine va_get (D := (dC, dI)) (ci := 8) (v := .ref a0_near) (C := R_Mo) (T := T_Mo) (N := 28) hx hb htt hin_Mo hown hK hP 0 rfl rfl 5 (by decide) (htt _ kt_774) (fun _ h9 => h9) rfl d_Mo_node_21 ?_
    refine lv_aload_n hx hb d_Mo_node_24 rfl (lv_at hl 0 rfl) ?_
    refine va_get (D := (dC, dI)) (ci := 8) (v := .int v0_nodes) (C := R_Mo) (T := T_Mo) (N := 28) hx hb htt hin_Mo hown hK hP 0 rfl rfl 1 (by decide) (htt _ kt_770) (fun _ h9 => h9) rfl d_Mo_node_25 ?_
    refine lv_iconst (v := 0) hx hb d_Mo_node_28 (by decide) ?_
    obtain ⟨hi_6, hm⟩ := gC_e hm
    refine va_iast hx hb hK hP hD hS 1 0 rfl rfl (inb_vp hi_6) d_Mo_node_29 (fun H locs hP hD hS => ?_)
    have hP : va_P (dC, dI) vwCl (wd_Mo_node cI cJ cG cZ a0 a0_from a0_to a0_near a0_lists a0_colours a0_shades a0_tints a0_attempt a0_taken a0_isApart a0_ways a0_next a0_splits a0_powers a0_row a0_many a0_can a0_could a0_arcRow a0_order a0_isOut 0 v0_nodes v0_arcs v0_takenMany v0_leftBits v0_hasPolynomial_2 v0_hasLists_3 (upd w0_near v0_nodes.toNatClampNeg 0) w0_lists) H := hP
    have hD : va_D A (wd_Mo_node cI cJ cG cZ a0 a0_from a0_to a0_near a0_lists a0_colours a0_shades a0_tints a0_attempt a0_taken a0_isApart a0_ways a0_next a0_splits a0_powers a0_row a0_many a0_can a0_could a0_arcRow a0_order a0_isOut 0 v0_nodes v0_arcs v0_takenMany v0_leftBits v0_hasPolynomial_2 v0_hasLists_3 (upd w0_near v0_nodes.toNatClampNeg 0) w0_lists) := hD
    refine lv_aload_n hx hb d_Mo_node_30 rfl (lv_at hl 0 rfl) ?_
    refine va_get (D := (dC, dI)) (ci := 8) (v := .ref a0_lists) (C := R_Mo) (T := T_Mo) (N := 28) hx hb htt hin_Mo hown hK hP 0 rfl rfl 6 (by decide) (htt _ kt_775) (fun _ h9 => h9) rfl d_Mo_node_31 ?_
    refine lv_aload_n hx hb d_Mo_node_34 rfl (lv_at hl 0 rfl) ?_
    refine va_get (D := (dC, dI)) (ci := 8) (v := .int v0_nodes) (C := R_Mo) (T := T_Mo) (N := 28) hx hb htt hin_Mo hown hK hP 0 rfl rfl 1 (by decide) (htt _ kt_770) (fun _ h9 => h9) rfl d_Mo_node_35 ?_
    refine lv_sipush (v := 4095) hx hb d_Mo_node_38 (by decide) ?_
    obtain ⟨hi_7, hm⟩ := gC_e hm
    refine va_iast hx hb hK hP hD hS 2 0 rfl rfl (inb_vp hi_7) d_Mo_node_41 (fun H locs hP hD hS => ?_)
    have hP : va_P (dC, dI) vwCl (wd_Mo_node cI cJ cG cZ a0 a0_from a0_to a0_near a0_lists a0_colours a0_shades a0_tints a0_attempt a0_taken a0_isApart a0_ways a0_next a0_splits a0_powers a0_row a0_many a0_can a0_could a0_arcRow a0_order a0_isOut 0 v0_nodes v0_arcs v0_takenMany v0_leftBits v0_hasPolynomial_2 v0_hasLists_3 (upd w0_near v0_nodes.toNatClampNeg 0) (upd w0_lists v0_nodes.toNatClampNeg 4095)) H := hP
    have hD : va_D A (wd_Mo_node cI cJ cG cZ a0 a0_from a0_to a0_near a0_lists a0_colours a0_shades a0_tints a0_attempt a0_taken a0_isApart a0_ways a0_next a0_splits a0_powers a0_row a0_many a0_can a0_could a0_arcRow a0_order a0_isOut 0 v0_nodes v0_arcs v0_takenMany v0_leftBits v0_hasPolynomial_2 v0_hasLists_3 (upd w0_near v0_nodes.toNatClampNeg 0) (upd w0_lists v0_nodes.toNatClampNeg 4095)) := hD
    refine lv_aload_n hx hb d_Mo_node_42 rfl (lv_at hl 0 rfl) ?_
    refine lv_dup hx hb d_Mo_node_43 rfl ?_
    refine va_get (D := (dC, dI)) (ci := 8) (v := .int v0_nodes) (C := R_Mo) (T := T_Mo) (N := 28) hx hb htt hin_Mo hown hK hP 0 rfl rfl 1 (by decide) (htt _ kt_770) (fun _ h9 => h9) rfl d_Mo_node_44 ?_
    refine lv_iconst (v := 1) hx hb d_Mo_node_47 (by decide) ?_
    refine lv_iadd hx hb d_Mo_node_48 ?_
    refine lv_topi (fun f_8 ef_8 => ?_)
    have hm := gB_at ef_8 hm
    refine va_put (D := (dC, dI)) (ci := 8) (v := .int f_8) (ty := .int) (C := R_Mo) (T := T_Mo) (N := 28) hx hb htt hin_Mo ty_Mo tyok_Mo nm_Mo hown hK hP hD hS 0 rfl rfl 1 (by decide) (htt _ kt_770) (fun _ h9 => h9) rfl (by decide +kernel) rfl rfl (Nat.le_of_ble_eq_true rfl) d_Mo_node_49 (fun H locs hP hD hS => ?_)
    have hP : va_P (dC, dI) vwCl (wd_Mo_node cI cJ cG cZ a0 a0_from a0_to a0_near a0_lists a0_colours a0_shades a0_tints a0_attempt a0_taken a0_isApart a0_ways a0_next a0_splits a0_powers a0_row a0_many a0_can a0_could a0_arcRow a0_order a0_isOut 0 f_8 v0_arcs v0_takenMany v0_leftBits v0_hasPolynomial_2 v0_hasLists_3 (upd w0_near v0_nodes.toNatClampNeg 0) (upd w0_lists v0_nodes.toNatClampNeg 4095)) H := hP
    have hD : va_D A (wd_Mo_node cI cJ cG cZ a0 a0_from a0_to a0_near a0_lists a0_colours a0_shades a0_tints a0_attempt a0_taken a0_isApart a0_ways a0_next a0_splits a0_powers a0_row a0_many a0_can a0_could a0_arcRow a0_order a0_isOut 0 f_8 v0_arcs v0_takenMany v0_leftBits v0_hasPolynomial_2 v0_hasLists_3 (upd w0_near v0_nodes.toNatClampNeg 0) (upd w0_lists v0_nodes.toNatClampNeg 4095)) := hD
    refine lv_aload_n hx hb d_Mo_node_52 rfl (lv_at hl 0 rfl) ?_
    refine va_get (D := (dC, dI)) (ci := 8) (v := .int f_8) (C := R_Mo) (T := T_Mo) (N := 28) hx hb htt hin_Mo hown hK hP 0 rfl rfl 1 (by decide) (htt _ kt_770) (fun _ h9 => h9) rfl d_Mo_node_53 ?_
    refine lv_iconst (v := 1) hx hb d_Mo_node_56 (by decide) ?_
    refine lv_isub hx hb d_Mo_node_57 ?_
    cases hm
    exact W.iret hx hb hr (fun t ht hW => ⟨⟨_, (), rfl, rfl, by rw [ht]; exact hP, va_K.moved hW.alike hK, hD⟩, hS.F ht⟩) hS.2.2 d_Mo_node_58
  · have hm := ite_t c_1 hm
    refine lv_iconst (v := (-1)) hx hb d_Mo_node_14 (by decide) ?_
    cases hm
    exact W.iret hx hb hr (fun t ht hW => ⟨⟨_, (), rfl, rfl, by rw [ht]; exact hP, va_K.moved hW.alike hK, hD⟩, hS.F ht⟩) hS.2.2 d_Mo_node_15
theorem d_Mo_arc_0 : decode prog_10_method_6_code 0 = .ok (.aload_n 0, 1) := by decide +kernel
theorem d_Mo_arc_1 : decode prog_10_method_6_code 1 = .ok (.iconst 0, 1) := by decide +kernel
theorem d_Mo_arc_2 : decode prog_10_method_6_code 2 = .ok (.putfield 79, 3) := by decide +kernel
theorem d_Mo_arc_5 : decode prog_10_method_6_code 5 = .ok (.aload_n 0, 1) := by decide +kernel
theorem d_Mo_arc_6 : decode prog_10_method_6_code 6 = .ok (.iload_n 1, 1) := by decide +kernel
theorem d_Mo_arc_7 : decode prog_10_method_6_code 7 = .ok (.invokevirtual 98, 3) := by decide +kernel
theorem d_Mo_arc_10 : decode prog_10_method_6_code 10 = .ok (.ifCond .eq 39, 3) := by decide +kernel
theorem d_Mo_arc_13 : decode prog_10_method_6_code 13 = .ok (.aload_n 0, 1) := by decide +kernel
theorem d_Mo_arc_14 : decode prog_10_method_6_code 14 = .ok (.iload_n 2, 1) := by decide +kernel
theorem d_Mo_arc_15 : decode prog_10_method_6_code 15 = .ok (.invokevirtual 98, 3) := by decide +kernel
theorem d_Mo_arc_18 : decode prog_10_method_6_code 18 = .ok (.ifCond .eq 31, 3) := by decide +kernel
theorem d_Mo_arc_21 : decode prog_10_method_6_code 21 = .ok (.iload_n 1, 1) := by decide +kernel
theorem d_Mo_arc_22 : decode prog_10_method_6_code 22 = .ok (.iload_n 2, 1) := by decide +kernel
theorem d_Mo_arc_23 : decode prog_10_method_6_code 23 = .ok (.if_icmp .eq 26, 3) := by decide +kernel
theorem d_Mo_arc_26 : decode prog_10_method_6_code 26 = .ok (.aload_n 0, 1) := by decide +kernel
theorem d_Mo_arc_27 : decode prog_10_method_6_code 27 = .ok (.getfield 16, 3) := by decide +kernel
theorem d_Mo_arc_30 : decode prog_10_method_6_code 30 = .ok (.iload_n 1, 1) := by decide +kernel
theorem d_Mo_arc_31 : decode prog_10_method_6_code 31 = .ok (.iaload, 1) := by decide +kernel
theorem d_Mo_arc_32 : decode prog_10_method_6_code 32 = .ok (.iload_n 2, 1) := by decide +kernel
theorem d_Mo_arc_33 : decode prog_10_method_6_code 33 = .ok (.ishr, 1) := by decide +kernel
theorem d_Mo_arc_34 : decode prog_10_method_6_code 34 = .ok (.iconst 1, 1) := by decide +kernel
theorem d_Mo_arc_35 : decode prog_10_method_6_code 35 = .ok (.iand, 1) := by decide +kernel
theorem d_Mo_arc_36 : decode prog_10_method_6_code 36 = .ok (.iconst 1, 1) := by decide +kernel
theorem d_Mo_arc_37 : decode prog_10_method_6_code 37 = .ok (.if_icmp .eq 12, 3) := by decide +kernel
theorem d_Mo_arc_40 : decode prog_10_method_6_code 40 = .ok (.aload_n 0, 1) := by decide +kernel
theorem d_Mo_arc_41 : decode prog_10_method_6_code 41 = .ok (.getfield 89, 3) := by decide +kernel
theorem d_Mo_arc_44 : decode prog_10_method_6_code 44 = .ok (.bipush 40, 2) := by decide +kernel
theorem d_Mo_arc_46 : decode prog_10_method_6_code 46 = .ok (.if_icmp .ne 5, 3) := by decide +kernel
theorem d_Mo_arc_49 : decode prog_10_method_6_code 49 = .ok (.iconst (-1), 1) := by decide +kernel
theorem d_Mo_arc_50 : decode prog_10_method_6_code 50 = .ok (.ireturn, 1) := by decide +kernel
theorem d_Mo_arc_51 : decode prog_10_method_6_code 51 = .ok (.aload_n 0, 1) := by decide +kernel
theorem d_Mo_arc_52 : decode prog_10_method_6_code 52 = .ok (.invokevirtual 83, 3) := by decide +kernel
theorem d_Mo_arc_55 : decode prog_10_method_6_code 55 = .ok (.aload_n 0, 1) := by decide +kernel
theorem d_Mo_arc_56 : decode prog_10_method_6_code 56 = .ok (.getfield 7, 3) := by decide +kernel
theorem d_Mo_arc_59 : decode prog_10_method_6_code 59 = .ok (.aload_n 0, 1) := by decide +kernel
theorem d_Mo_arc_60 : decode prog_10_method_6_code 60 = .ok (.getfield 89, 3) := by decide +kernel
theorem d_Mo_arc_63 : decode prog_10_method_6_code 63 = .ok (.iload_n 1, 1) := by decide +kernel
theorem d_Mo_arc_64 : decode prog_10_method_6_code 64 = .ok (.iastore, 1) := by decide +kernel
theorem d_Mo_arc_65 : decode prog_10_method_6_code 65 = .ok (.aload_n 0, 1) := by decide +kernel
theorem d_Mo_arc_66 : decode prog_10_method_6_code 66 = .ok (.getfield 13, 3) := by decide +kernel
theorem d_Mo_arc_69 : decode prog_10_method_6_code 69 = .ok (.aload_n 0, 1) := by decide +kernel
theorem d_Mo_arc_70 : decode prog_10_method_6_code 70 = .ok (.getfield 89, 3) := by decide +kernel
theorem d_Mo_arc_73 : decode prog_10_method_6_code 73 = .ok (.iload_n 2, 1) := by decide +kernel
theorem d_Mo_arc_74 : decode prog_10_method_6_code 74 = .ok (.iastore, 1) := by decide +kernel
theorem d_Mo_arc_75 : decode prog_10_method_6_code 75 = .ok (.aload_n 0, 1) := by decide +kernel
theorem d_Mo_arc_76 : decode prog_10_method_6_code 76 = .ok (.getfield 16, 3) := by decide +kernel
theorem d_Mo_arc_79 : decode prog_10_method_6_code 79 = .ok (.iload_n 1, 1) := by decide +kernel
theorem d_Mo_arc_80 : decode prog_10_method_6_code 80 = .ok (.dup2, 1) := by decide +kernel
theorem d_Mo_arc_81 : decode prog_10_method_6_code 81 = .ok (.iaload, 1) := by decide +kernel
theorem d_Mo_arc_82 : decode prog_10_method_6_code 82 = .ok (.iconst 1, 1) := by decide +kernel
theorem d_Mo_arc_83 : decode prog_10_method_6_code 83 = .ok (.iload_n 2, 1) := by decide +kernel
theorem d_Mo_arc_84 : decode prog_10_method_6_code 84 = .ok (.ishl, 1) := by decide +kernel
theorem d_Mo_arc_85 : decode prog_10_method_6_code 85 = .ok (.ior, 1) := by decide +kernel
theorem d_Mo_arc_86 : decode prog_10_method_6_code 86 = .ok (.iastore, 1) := by decide +kernel
theorem d_Mo_arc_87 : decode prog_10_method_6_code 87 = .ok (.aload_n 0, 1) := by decide +kernel
theorem d_Mo_arc_88 : decode prog_10_method_6_code 88 = .ok (.getfield 16, 3) := by decide +kernel
theorem d_Mo_arc_91 : decode prog_10_method_6_code 91 = .ok (.iload_n 2, 1) := by decide +kernel
theorem d_Mo_arc_92 : decode prog_10_method_6_code 92 = .ok (.dup2, 1) := by decide +kernel
theorem d_Mo_arc_93 : decode prog_10_method_6_code 93 = .ok (.iaload, 1) := by decide +kernel
theorem d_Mo_arc_94 : decode prog_10_method_6_code 94 = .ok (.iconst 1, 1) := by decide +kernel
theorem d_Mo_arc_95 : decode prog_10_method_6_code 95 = .ok (.iload_n 1, 1) := by decide +kernel
theorem d_Mo_arc_96 : decode prog_10_method_6_code 96 = .ok (.ishl, 1) := by decide +kernel
theorem d_Mo_arc_97 : decode prog_10_method_6_code 97 = .ok (.ior, 1) := by decide +kernel
theorem d_Mo_arc_98 : decode prog_10_method_6_code 98 = .ok (.iastore, 1) := by decide +kernel
theorem d_Mo_arc_99 : decode prog_10_method_6_code 99 = .ok (.aload_n 0, 1) := by decide +kernel
theorem d_Mo_arc_100 : decode prog_10_method_6_code 100 = .ok (.dup, 1) := by decide +kernel
theorem d_Mo_arc_101 : decode prog_10_method_6_code 101 = .ok (.getfield 89, 3) := by decide +kernel
theorem d_Mo_arc_104 : decode prog_10_method_6_code 104 = .ok (.iconst 1, 1) := by decide +kernel
theorem d_Mo_arc_105 : decode prog_10_method_6_code 105 = .ok (.iadd, 1) := by decide +kernel
theorem d_Mo_arc_106 : decode prog_10_method_6_code 106 = .ok (.putfield 89, 3) := by decide +kernel
theorem d_Mo_arc_109 : decode prog_10_method_6_code 109 = .ok (.aload_n 0, 1) := by decide +kernel
theorem d_Mo_arc_110 : decode prog_10_method_6_code 110 = .ok (.getfield 89, 3) := by decide +kernel
theorem d_Mo_arc_113 : decode prog_10_method_6_code 113 = .ok (.iconst 1, 1) := by decide +kernel
theorem d_Mo_arc_114 : decode prog_10_method_6_code 114 = .ok (.isub, 1) := by decide +kernel
theorem d_Mo_arc_115 : decode prog_10_method_6_code 115 = .ok (.ireturn, 1) := by decide +kernel
abbrev wd_Mo_arc (cI cJ cG cZ : ClassId) (a0 a0_from a0_to a0_near a0_lists a0_colours a0_shades a0_tints a0_attempt a0_taken a0_isApart a0_ways a0_next a0_splits a0_powers a0_row a0_many a0_can a0_could a0_arcRow a0_order a0_isOut : Nat) (v0_thrown : Int32) (v0_nodes : Int32) (v0_arcs : Int32) (v0_takenMany : Int32) (v0_leftBits : Int32) (v0_hasPolynomial : Int32) (v0_hasLists : Int32) (w0_from : Nat → Int32) (w0_to : Nat → Int32) (w0_near : Nat → Int32) : va_W := [(a0, .inr (8, [.int v0_thrown, .int v0_nodes, .int v0_arcs, .ref a0_from, .ref a0_to, .ref a0_near, .ref a0_lists, .ref a0_colours, .ref a0_shades, .ref a0_tints, .ref a0_attempt, .int v0_takenMany, .ref a0_taken, .int v0_leftBits, .ref a0_isApart, .ref a0_ways, .ref a0_next, .ref a0_splits, .ref a0_powers, .ref a0_row, .ref a0_many, .int v0_hasPolynomial, .int v0_hasLists, .ref a0_can, .ref a0_could, .ref a0_arcRow, .ref a0_order, .ref a0_isOut])), (a0_from, .inl (cI, 40, .inl w0_from)), (a0_to, .inl (cI, 40, .inl w0_to)), (a0_near, .inl (cI, 12, .inl w0_near))]
abbrev us_Mo_arc : List Cond := .code y_Mo_arc prog_10_method_6_code 3 (some .int) :: gtbl
abbrev rm_Mo_arc : Room := { frames := 1, cells := 0, slots := 0, locals := 21 }
def m_Mo_arc (F : Nat) (v0_thrown : Int32) (v0_nodes : Int32) (v0_arcs : Int32) (v0_takenMany : Int32) (v0_leftBits : Int32) (v0_hasPolynomial : Int32) (v0_hasLists : Int32) (w0_from : Nat → Int32) (w0_to : Nat → Int32) (w0_near : Nat → Int32) (p1 : Int32) (p2 : Int32) : Option (Int32 × Int32 × Int32 × Int32 × Int32 × (Nat → Int32) × (Nat → Int32) × (Nat → Int32)) :=
  gM (m_Mo_isNode F 0 v0_nodes v0_arcs v0_takenMany v0_leftBits v0_hasPolynomial v0_hasLists p1) (fun q_1 =>
  if q_1 = 0 then (
    some ((-1), 0, v0_arcs, v0_hasPolynomial, v0_hasLists, w0_from, w0_to, w0_near)
  ) else (
    gM (m_Mo_isNode F 0 v0_nodes v0_arcs v0_takenMany v0_leftBits v0_hasPolynomial v0_hasLists p2) (fun q_6 =>
    if q_6 = 0 then (
      some ((-1), 0, v0_arcs, v0_hasPolynomial, v0_hasLists, w0_from, w0_to, w0_near)
    ) else (
      if p1 = p2 then (
        some ((-1), 0, v0_arcs, v0_hasPolynomial, v0_hasLists, w0_from, w0_to, w0_near)
      ) else (
        gC (inb p1 12) (
        if (((w0_near p1.toNatClampNeg) >>> (p2 &&& 31)) &&& 1) = (1 : Int32) then (
          some ((-1), 0, v0_arcs, v0_hasPolynomial, v0_hasLists, w0_from, w0_to, w0_near)
        ) else (
          if v0_arcs = (40 : Int32) then (
            some ((-1), 0, v0_arcs, v0_hasPolynomial, v0_hasLists, w0_from, w0_to, w0_near)
          ) else (
            gM (m_Mo_changed F 0 v0_nodes v0_arcs v0_takenMany v0_leftBits v0_hasPolynomial v0_hasLists) (fun (z_18 : Int32 × Int32) => match z_18 with
            | (v0_hasPolynomial_15, v0_hasLists_16) =>
            gC (inb v0_arcs 40) (
            gC (inb v0_arcs 40) (
            gC (inb p1 12) (
            gC (inb p1 12) (
            gC (inb p2 12) (
            gC (inb p2 12) (
            gB (v0_arcs + 1) (fun f_25 =>
            some (f_25 - 1, 0, f_25, v0_hasPolynomial_15, v0_hasLists_16, upd w0_from v0_arcs.toNatClampNeg p1, upd w0_to v0_arcs.toNatClampNeg p2, upd (upd w0_near p1.toNatClampNeg ((w0_near p1.toNatClampNeg) ||| ((1 : Int32) <<< (p2 &&& 31)))) p2.toNatClampNeg (((upd w0_near p1.toNatClampNeg ((w0_near p1.toNatClampNeg) ||| ((1 : Int32) <<< (p2 &&& 31)))) p2.toNatClampNeg) ||| ((1 : Int32) <<< (p1 &&& 31))))))))))))
          )
        ))
      )
    ))
  ))
set_option maxHeartbeats 4000000 in
set_option maxRecDepth 100000 in
theorem c_Mo_arc (l : Launch) (dC : Nat → ClassId) (dI : Nat → Nat → Nat) (cI cJ cG cZ : ClassId) (a0 a0_from a0_to a0_near a0_lists a0_colours a0_shades a0_tints a0_attempt a0_taken a0_isApart a0_ways a0_next a0_splits a0_powers a0_row a0_many a0_can a0_could a0_arcRow a0_order a0_isOut : Nat) (sz : Nat) (F : Nat) (v0_thrown : Int32) (v0_nodes : Int32) (v0_arcs : Int32) (v0_takenMany : Int32) (v0_leftBits : Int32) (v0_hasPolynomial : Int32) (v0_hasLists : Int32) (w0_from : Nat → Int32) (w0_to : Nat → Int32) (w0_near : Nat → Int32) (p1 : Int32) (p2 : Int32) (ret : Int32) (o_v0_thrown : Int32) (o_v0_arcs : Int32) (o_v0_hasPolynomial : Int32) (o_v0_hasLists : Int32) (o_w0_from : Nat → Int32) (o_w0_to : Nat → Int32) (o_w0_near : Nat → Int32) (hm : m_Mo_arc F v0_thrown v0_nodes v0_arcs v0_takenMany v0_leftBits v0_hasPolynomial v0_hasLists w0_from w0_to w0_near p1 p2 = some (ret, o_v0_thrown, o_v0_arcs, o_v0_hasPolynomial, o_v0_hasLists, o_w0_from, o_w0_to, o_w0_near)) : Met l y_Mo_arc us_Mo_arc rm_Mo_arc (PcS (dC, dI) (tyL cI cJ cG cZ) [.ref a0, .int p1, .int p2] sz (wd_Mo_arc cI cJ cG cZ a0 a0_from a0_to a0_near a0_lists a0_colours a0_shades a0_tints a0_attempt a0_taken a0_isApart a0_ways a0_next a0_splits a0_powers a0_row a0_many a0_can a0_could a0_arcRow a0_order a0_isOut v0_thrown v0_nodes v0_arcs v0_takenMany v0_leftBits v0_hasPolynomial v0_hasLists w0_from w0_to w0_near)) (va_Qi (fun (r : Int32) (_ : Unit) => ret = r) (fun _ t => PoS (dC, dI) (tyL cI cJ cG cZ) (wd_Mo_arc cI cJ cG cZ a0 a0_from a0_to a0_near a0_lists a0_colours a0_shades a0_tints a0_attempt a0_taken a0_isApart a0_ways a0_next a0_splits a0_powers a0_row a0_many a0_can a0_could a0_arcRow a0_order a0_isOut o_v0_thrown v0_nodes o_v0_arcs v0_takenMany v0_leftBits o_v0_hasPolynomial o_v0_hasLists o_w0_from o_w0_to o_w0_near) (va_A (wd_Mo_arc cI cJ cG cZ a0 a0_from a0_to a0_near a0_lists a0_colours a0_shades a0_tints a0_attempt a0_taken a0_isApart a0_ways a0_next a0_splits a0_powers a0_row a0_many a0_can a0_could a0_arcRow a0_order a0_isOut v0_thrown v0_nodes v0_arcs v0_takenMany v0_leftBits v0_hasPolynomial v0_hasLists w0_from w0_to w0_near) sz) t) (va_A (wd_Mo_arc cI cJ cG cZ a0 a0_from a0_to a0_near a0_lists a0_colours a0_shades a0_tints a0_attempt a0_taken a0_isApart a0_ways a0_next a0_splits a0_powers a0_row a0_many a0_can a0_could a0_arcRow a0_order a0_isOut v0_thrown v0_nodes v0_arcs v0_takenMany v0_leftBits v0_hasPolynomial v0_hasLists w0_from w0_to w0_near) sz)) 0 0 (va_A (wd_Mo_arc cI cJ cG cZ a0 a0_from a0_to a0_near a0_lists a0_colours a0_shades a0_tints a0_attempt a0_taken a0_isApart a0_ways a0_next a0_splits a0_powers a0_row a0_many a0_can a0_could a0_arcRow a0_order a0_isOut v0_thrown v0_nodes v0_arcs v0_takenMany v0_leftBits v0_hasPolynomial v0_hasLists w0_from w0_to w0_near) sz) := by
  refine Met.ofW (cc := prog_10_method_6_code) (maxL := 3) (ret := (some .int)) (by decide) rfl ?_
  intro p e s m args below meth c s₁ B hml hv
  obtain ⟨rfl, hsz, hP, hK, hD0, hNw⟩ := hv
  have hx := B.exec
  have hb := B.bytes
  have hr := B.returns
  have htt : ∀ w ∈ gtbl, w.before _ s = true := fun w h => atoms_spec (ws := us_Mo_arc) B.pre w (List.mem_cons_of_mem _ h)
  have hown : s.vm.findClass R_Mo = some m.cls := findClass_of_methodNamed B.named
  have hlocks := B.notSynchronized
  subst hsz
  have hD := hD0.self (sz := s.heap.size)
  generalize hAe : va_A (wd_Mo_arc cI cJ cG cZ a0 a0_from a0_to a0_near a0_lists a0_colours a0_shades a0_tints a0_attempt a0_taken a0_isApart a0_ways a0_next a0_splits a0_powers a0_row a0_many a0_can a0_could a0_arcRow a0_order a0_isOut v0_thrown v0_nodes v0_arcs v0_takenMany v0_leftBits v0_hasPolynomial v0_hasLists w0_from w0_to w0_near) s.heap.size = A at hD ⊢
  have hA : ∀ q : Nat, s.heap.size ≤ q → A q := fun q h => by rw [← hAe]; exact Or.inr h
  clear hAe hD0
  have hS : va_S A s.heap s.heap [] := va_S.rf
  have hl := lv_entry ([.ref a0, .int p1, .int p2]) (n := 3) (Nat.le_of_ble_eq_true rfl)
  rw [lg_entry_eq]
  generalize (lg_sl ([.ref a0, .int p1, .int p2]) ++ List.replicate (3 - (lg_sl ([.ref a0, .int p1, .int p2])).length) Slot.unset).toArray = ls at hl ⊢
  have hl : lv_has ls 3 [(0, .ref a0), (1, .int p1), (2, .int p2)] := hl
  generalize hH : s.heap = H at hP ⊢
  have hS : va_S A s.heap H [] := hH ▸ hS
  generalize hLo : ([] : List Loc) = locs at hS ⊢
  clear hH hLo
  unfold m_Mo_arc at hm
  refine lv_aload_n hx hb d_Mo_arc_0 rfl (lv_at hl 0 rfl) ?_
  refine lv_iconst (v := 0) hx hb d_Mo_arc_1 (by decide) ?_
  refine va_put (D := (dC, dI)) (ci := 8) (v := .int 0) (ty := .int) (C := R_Mo) (T := T_Mo) (N := 28) hx hb htt hin_Mo ty_Mo tyok_Mo nm_Mo hown hK hP hD hS 0 rfl rfl 0 (by decide) (htt _ kt_769) (fun _ h9 => h9) rfl (by decide +kernel) rfl rfl (Nat.le_of_ble_eq_true rfl) d_Mo_arc_2 (fun H locs hP hD hS => ?_)
  have hP : va_P (dC, dI) vwCl (wd_Mo_arc cI cJ cG cZ a0 a0_from a0_to a0_near a0_lists a0_colours a0_shades a0_tints a0_attempt a0_taken a0_isApart a0_ways a0_next a0_splits a0_powers a0_row a0_many a0_can a0_could a0_arcRow a0_order a0_isOut 0 v0_nodes v0_arcs v0_takenMany v0_leftBits v0_hasPolynomial v0_hasLists w0_from w0_to w0_near) H := hP
  have hD : va_D A (wd_Mo_arc cI cJ cG cZ a0 a0_from a0_to a0_near a0_lists a0_colours a0_shades a0_tints a0_attempt a0_taken a0_isApart a0_ways a0_next a0_splits a0_powers a0_row a0_many a0_can a0_could a0_arcRow a0_order a0_isOut 0 v0_nodes v0_arcs v0_takenMany v0_leftBits v0_hasPolynomial v0_hasLists w0_from w0_to w0_near) := hD
  refine lv_aload_n hx hb d_Mo_arc_5 rfl (lv_at hl 0 rfl) ?_
  refine lv_iload_n hx hb d_Mo_arc_6 rfl (lv_at hl 1 rfl) ?_
  obtain ⟨q_1, hc_2, hm⟩ := gM_e hm
  have hPc : va_P (dC, dI) vwCl (wd_Mo_isNode cI cJ cG cZ a0 a0_from a0_to a0_near a0_lists a0_colours a0_shades a0_tints a0_attempt a0_taken a0_isApart a0_ways a0_next a0_splits a0_powers a0_row a0_many a0_can a0_could a0_arcRow a0_order a0_isOut 0 v0_nodes v0_arcs v0_takenMany v0_leftBits v0_hasPolynomial v0_hasLists) H := hP.sub [0] rfl
  have hDc : va_D A (wd_Mo_isNode cI cJ cG cZ a0 a0_from a0_to a0_near a0_lists a0_colours a0_shades a0_tints a0_attempt a0_taken a0_isApart a0_ways a0_next a0_splits a0_powers a0_row a0_many a0_can a0_could a0_arcRow a0_order a0_isOut 0 v0_nodes v0_arcs v0_takenMany v0_leftBits v0_hasPolynomial v0_hasLists) := hD.sub [0] (by decide) rfl
  have hFc : ∀ q, va_A (wd_Mo_isNode cI cJ cG cZ a0 a0_from a0_to a0_near a0_lists a0_colours a0_shades a0_tints a0_attempt a0_taken a0_isApart a0_ways a0_next a0_splits a0_powers a0_row a0_many a0_can a0_could a0_arcRow a0_order a0_isOut 0 v0_nodes v0_arcs v0_takenMany v0_leftBits v0_hasPolynomial v0_hasLists) H.size q → A q := va_free hD hS hA [0] rfl
  refine va_calli (va_runV (As := [.int p1]) (rest := []) ⟨hx, hb, hml, hown, htt⟩ (c_Mo_isNode l dC dI cI cJ cG cZ a0 a0_from a0_to a0_near a0_lists a0_colours a0_shades a0_tints a0_attempt a0_taken a0_isApart a0_ways a0_next a0_splits a0_powers a0_row a0_many a0_can a0_could a0_arcRow a0_order a0_isOut H.size F 0 v0_nodes v0_arcs v0_takenMany v0_leftBits v0_hasPolynomial v0_hasLists p1 q_1 hc_2) (cwV 1 htt (gdV kt_868 kt_870 kp_43 kt_10 kt_871) rfl rfl rfl (by decide +kernel) ⟨(Nat.le_of_ble_eq_true rfl), (Nat.le_of_ble_eq_true rfl)⟩) ⟨PcS_blind, va_recv hK hPc (ci := 8) (q0 := 0) rfl rfl, PcS_in hPc hK hDc hNw⟩ rfl rfl hl.1 rfl (lv_room (Nat.le_of_ble_eq_true rfl)) d_Mo_arc_7 ⟨Nat.zero_le _, Nat.zero_le _⟩) hS (fun q _ h => hFc q h) hFc (fun r_3 u t H1 locs ht hvm hw hB hz1 hk1 hS => ?_)
  obtain ⟨hP1, hK1, hD1⟩ := hB
  rw [ht] at hP1
  obtain ⟨hw, hz_4⟩ := hw
  subst hw
  obtain ⟨hP, hD⟩ := va_join (wr := [(a0_from, .inl (cI, 40, .inl w0_from)), (a0_to, .inl (cI, 40, .inl w0_to)), (a0_near, .inl (cI, 12, .inl w0_near))]) (w1 := (wd_Mo_isNode cI cJ cG cZ a0 a0_from a0_to a0_near a0_lists a0_colours a0_shades a0_tints a0_attempt a0_taken a0_isApart a0_ways a0_next a0_splits a0_powers a0_row a0_many a0_can a0_could a0_arcRow a0_order a0_isOut 0 v0_nodes v0_arcs v0_takenMany v0_leftBits v0_hasPolynomial v0_hasLists)) hP hD [0] [1, 2, 3] rfl rfl (by decide) (by decide) hk1 hFc hP1 hD1
  have hP : va_P (dC, dI) vwCl (wd_Mo_arc cI cJ cG cZ a0 a0_from a0_to a0_near a0_lists a0_colours a0_shades a0_tints a0_attempt a0_taken a0_isApart a0_ways a0_next a0_splits a0_powers a0_row a0_many a0_can a0_could a0_arcRow a0_order a0_isOut 0 v0_nodes v0_arcs v0_takenMany v0_leftBits v0_hasPolynomial v0_hasLists w0_from w0_to w0_near) H1 := hP.sub [3, 0, 1, 2] rfl
  have hD : va_D A (wd_Mo_arc cI cJ cG cZ a0 a0_from a0_to a0_near a0_lists a0_colours a0_shades a0_tints a0_attempt a0_taken a0_isApart a0_ways a0_next a0_splits a0_powers a0_row a0_many a0_can a0_could a0_arcRow a0_order a0_isOut 0 v0_nodes v0_arcs v0_takenMany v0_leftBits v0_hasPolynomial v0_hasLists w0_from w0_to w0_near) := hD.sub [3, 0, 1, 2] (by decide) rfl
  clear hP1 hK1 hD1 hk1 hPc hDc hFc ht hvm hz1
  generalize H1 = H at hP hS ⊢
  refine lv_if_eq (tgt := 49) hx hb d_Mo_arc_10 (by decide) (fun c_5 => ?_) (fun c_5 => ?_)
  · have hm := ite_t c_5 hm
    refine lv_iconst (v := (-1)) hx hb d_Mo_arc_49 (by decide) ?_
    cases hm
    exact W.iret hx hb hr (fun t ht hW => ⟨⟨_, (), rfl, rfl, by rw [ht]; exact hP, va_K.moved hW.alike hK, hD⟩, hS.F ht⟩) hS.2.2 d_Mo_arc_50
  · have hm := ite_f c_5 hm
    refine lv_aload_n hx hb d_Mo_arc_13 rfl (lv_at hl 0 rfl) ?_
    refine lv_iload_n hx hb d_Mo_arc_14 rfl (lv_at hl 2 rfl) ?_
    obtain ⟨q_6, hc_7, hm⟩ := gM_e hm
    have hPc : va_P (dC, dI) vwCl (wd_Mo_isNode cI cJ cG cZ a0 a0_from a0_to a0_near a0_lists a0_colours a0_shades a0_tints a0_attempt a0_taken a0_isApart a0_ways a0_next a0_splits a0_powers a0_row a0_many a0_can a0_could a0_arcRow a0_order a0_isOut 0 v0_nodes v0_arcs v0_takenMany v0_leftBits v0_hasPolynomial v0_hasLists) H := hP.sub [0] rfl
    have hDc : va_D A (wd_Mo_isNode cI cJ cG cZ a0 a0_from a0_to a0_near a0_lists a0_colours a0_shades a0_tints a0_attempt a0_taken a0_isApart a0_ways a0_next a0_splits a0_powers a0_row a0_many a0_can a0_could a0_arcRow a0_order a0_isOut 0 v0_nodes v0_arcs v0_takenMany v0_leftBits v0_hasPolynomial v0_hasLists) := hD.sub [0] (by decide) rfl
    have hFc : ∀ q, va_A (wd_Mo_isNode cI cJ cG cZ a0 a0_from a0_to a0_near a0_lists a0_colours a0_shades a0_tints a0_attempt a0_taken a0_isApart a0_ways a0_next a0_splits a0_powers a0_row a0_many a0_can a0_could a0_arcRow a0_order a0_isOut 0 v0_nodes v0_arcs v0_takenMany v0_leftBits v0_hasPolynomial v0_hasLists) H.size q → A q := va_free hD hS hA [0] rfl
    refine va_calli (va_runV (As := [.int p2]) (rest := []) ⟨hx, hb, hml, hown, htt⟩ (c_Mo_isNode l dC dI cI cJ cG cZ a0 a0_from a0_to a0_near a0_lists a0_colours a0_shades a0_tints a0_attempt a0_taken a0_isApart a0_ways a0_next a0_splits a0_powers a0_row a0_many a0_can a0_could a0_arcRow a0_order a0_isOut H.size F 0 v0_nodes v0_arcs v0_takenMany v0_leftBits v0_hasPolynomial v0_hasLists p2 q_6 hc_7) (cwV 1 htt (gdV kt_868 kt_870 kp_43 kt_10 kt_871) rfl rfl rfl (by decide +kernel) ⟨(Nat.le_of_ble_eq_true rfl), (Nat.le_of_ble_eq_true rfl)⟩) ⟨PcS_blind, va_recv hK hPc (ci := 8) (q0 := 0) rfl rfl, PcS_in hPc hK hDc hNw⟩ rfl rfl hl.1 rfl (lv_room (Nat.le_of_ble_eq_true rfl)) d_Mo_arc_15 ⟨Nat.zero_le _, Nat.zero_le _⟩) hS (fun q _ h => hFc q h) hFc (fun r_8 u t H1 locs ht hvm hw hB hz1 hk1 hS => ?_)
    obtain ⟨hP1, hK1, hD1⟩ := hB
    rw [ht] at hP1
    obtain ⟨hw, hz_9⟩ := hw
    subst hw
    obtain ⟨hP, hD⟩ := va_join (wr := [(a0_from, .inl (cI, 40, .inl w0_from)), (a0_to, .inl (cI, 40, .inl w0_to)), (a0_near, .inl (cI, 12, .inl w0_near))]) (w1 := (wd_Mo_isNode cI cJ cG cZ a0 a0_from a0_to a0_near a0_lists a0_colours a0_shades a0_tints a0_attempt a0_taken a0_isApart a0_ways a0_next a0_splits a0_powers a0_row a0_many a0_can a0_could a0_arcRow a0_order a0_isOut 0 v0_nodes v0_arcs v0_takenMany v0_leftBits v0_hasPolynomial v0_hasLists)) hP hD [0] [1, 2, 3] rfl rfl (by decide) (by decide) hk1 hFc hP1 hD1
    have hP : va_P (dC, dI) vwCl (wd_Mo_arc cI cJ cG cZ a0 a0_from a0_to a0_near a0_lists a0_colours a0_shades a0_tints a0_attempt a0_taken a0_isApart a0_ways a0_next a0_splits a0_powers a0_row a0_many a0_can a0_could a0_arcRow a0_order a0_isOut 0 v0_nodes v0_arcs v0_takenMany v0_leftBits v0_hasPolynomial v0_hasLists w0_from w0_to w0_near) H1 := hP.sub [3, 0, 1, 2] rfl
    have hD : va_D A (wd_Mo_arc cI cJ cG cZ a0 a0_from a0_to a0_near a0_lists a0_colours a0_shades a0_tints a0_attempt a0_taken a0_isApart a0_ways a0_next a0_splits a0_powers a0_row a0_many a0_can a0_could a0_arcRow a0_order a0_isOut 0 v0_nodes v0_arcs v0_takenMany v0_leftBits v0_hasPolynomial v0_hasLists w0_from w0_to w0_near) := hD.sub [3, 0, 1, 2] (by decide) rfl
    clear hP1 hK1 hD1 hk1 hPc hDc hFc ht hvm hz1
    generalize H1 = H at hP hS ⊢
    refine lv_if_eq (tgt := 49) hx hb d_Mo_arc_18 (by decide) (fun c_10 => ?_) (fun c_10 => ?_)
    · have hm := ite_t c_10 hm
      refine lv_iconst (v := (-1)) hx hb d_Mo_arc_49 (by decide) ?_
      cases hm
      exact W.iret hx hb hr (fun t ht hW => ⟨⟨_, (), rfl, rfl, by rw [ht]; exact hP, va_K.moved hW.alike hK, hD⟩, hS.F ht⟩) hS.2.2 d_Mo_arc_50
    · have hm := ite_f c_10 hm
      refine lv_iload_n hx hb d_Mo_arc_21 rfl (lv_at hl 1 rfl) ?_
      refine lv_iload_n hx hb d_Mo_arc_22 rfl (lv_at hl 2 rfl) ?_
      refine lv_icmp_eq (tgt := 49) hx hb d_Mo_arc_23 (by decide) (fun c_11 => ?_) (fun c_11 => ?_)
      · have hm := ite_t c_11 hm
        refine lv_iconst (v := (-1)) hx hb d_Mo_arc_49 (by decide) ?_
        cases hm
        exact W.iret hx hb hr (fun t ht hW => ⟨⟨_, (), rfl, rfl, by rw [ht]; exact hP, va_K.moved hW.alike hK, hD⟩, hS.F ht⟩) hS.2.2 d_Mo_arc_50
      · have hm := ite_f c_11 hm
        refine lv_aload_n hx hb d_Mo_arc_26 rfl (lv_at hl 0 rfl) ?_
        refine va_get (D := (dC, dI)) (ci := 8) (v := .ref a0_near) (C := R_Mo) (T := T_Mo) (N := 28) hx hb htt hin_Mo hown hK hP 0 rfl rfl 5 (by decide) (htt _ kt_774) (fun _ h9 => h9) rfl d_Mo_arc_27 ?_
        refine lv_iload_n hx hb d_Mo_arc_30 rfl (lv_at hl 1 rfl) ?_
        obtain ⟨hi_12, hm⟩ := gC_e hm
        refine va_iald hx hb hK hP 3 0 rfl rfl (inb_vp hi_12) d_Mo_arc_31 ?_
        refine lv_iload_n hx hb d_Mo_arc_32 rfl (lv_at hl 2 rfl) ?_
        refine lv_ishr hx hb d_Mo_arc_33 ?_
        refine lv_iconst (v := 1) hx hb d_Mo_arc_34 (by decide) ?_
        refine lv_iand hx hb d_Mo_arc_35 ?_
        refine lv_iconst (v := 1) hx hb d_Mo_arc_36 (by decide) ?_
        refine lv_icmp_eq (tgt := 49) hx hb d_Mo_arc_37 (by decide) (fun c_13 => ?_) (fun c_13 => ?_)
        · have hm := ite_t c_13 hm
          refine lv_iconst (v := (-1)) hx hb d_Mo_arc_49 (by decide) ?_
          cases hm
          exact W.iret hx hb hr (fun t ht hW => ⟨⟨_, (), rfl, rfl, by rw [ht]; exact hP, va_K.moved hW.alike hK, hD⟩, hS.F ht⟩) hS.2.2 d_Mo_arc_50
        · have hm := ite_f c_13 hm
          refine lv_aload_n hx hb d_Mo_arc_40 rfl (lv_at hl 0 rfl) ?_
          refine va_get (D := (dC, dI)) (ci := 8) (v := .int v0_arcs) (C := R_Mo) (T := T_Mo) (N := 28) hx hb htt hin_Mo hown hK hP 0 rfl rfl 2 (by decide) (htt _ kt_771) (fun _ h9 => h9) rfl d_Mo_arc_41 ?_
          refine lv_bipush (v := 40) hx hb d_Mo_arc_44 (by decide) ?_
          refine lv_icmp_ne (tgt := 51) hx hb d_Mo_arc_46 (by decide) (fun c_14 => ?_) (fun c_14 => ?_)
          · have hm := ite_f c_14 hm
            refine lv_aload_n hx hb d_Mo_arc_51 rfl (lv_at hl 0 rfl) ?_
            obtain ⟨⟨v0_hasPolynomial_15, v0_hasLists_16⟩, hc_17, hm⟩ := gM_e hm
            dsimp only at hm
            have hPc : va_P (dC, dI) vwCl (wd_Mo_changed cI cJ cG cZ a0 a0_from a0_to a0_near a0_lists a0_colours a0_shades a0_tints a0_attempt a0_taken a0_isApart a0_ways a0_next a0_splits a0_powers a0_row a0_many a0_can a0_could a0_arcRow a0_order a0_isOut 0 v0_nodes v0_arcs v0_takenMany v0_leftBits v0_hasPolynomial v0_hasLists) H := hP.sub [0] rfl
            have hDc : va_D A (wd_Mo_changed cI cJ cG cZ a0 a0_from a0_to a0_near a0_lists a0_colours a0_shades a0_tints a0_attempt a0_taken a0_isApart a0_ways a0_next a0_splits a0_powers a0_row a0_many a0_can a0_could a0_arcRow a0_order a0_isOut 0 v0_nodes v0_arcs v0_takenMany v0_leftBits v0_hasPolynomial v0_hasLists) := hD.sub [0] (by decide) rfl
            have hFc : ∀ q, va_A (wd_Mo_changed cI cJ cG cZ a0 a0_from a0_to a0_near a0_lists a0_colours a0_shades a0_tints a0_attempt a0_taken a0_isApart a0_ways a0_next a0_splits a0_powers a0_row a0_many a0_can a0_could a0_arcRow a0_order a0_isOut 0 v0_nodes v0_arcs v0_takenMany v0_leftBits v0_hasPolynomial v0_hasLists) H.size q → A q := va_free hD hS hA [0] rfl
            refine va_callv (va_runV (As := []) (rest := []) ⟨hx, hb, hml, hown, htt⟩ (c_Mo_changed l dC dI cI cJ cG cZ a0 a0_from a0_to a0_near a0_lists a0_colours a0_shades a0_tints a0_attempt a0_taken a0_isApart a0_ways a0_next a0_splits a0_powers a0_row a0_many a0_can a0_could a0_arcRow a0_order a0_isOut H.size F 0 v0_nodes v0_arcs v0_takenMany v0_leftBits v0_hasPolynomial v0_hasLists v0_hasPolynomial_15 v0_hasLists_16 hc_17) (cwV 0 htt (gdV kt_765 kt_767 kp_42 kt_10 kt_768) rfl rfl rfl (by decide +kernel) ⟨(Nat.le_of_ble_eq_true rfl), (Nat.le_of_ble_eq_true rfl)⟩) ⟨PcS_blind, va_recv hK hPc (ci := 8) (q0 := 0) rfl rfl, PcS_in hPc hK hDc hNw⟩ rfl rfl hl.1 rfl (lv_room (Nat.le_of_ble_eq_true rfl)) d_Mo_arc_52 ⟨Nat.zero_le _, Nat.zero_le _⟩) hS (fun q _ h => hFc q h) hFc (fun u t H1 locs ht hvm hw hB hz1 hk1 hS => ?_)
            obtain ⟨hP1, hK1, hD1⟩ := hB
            rw [ht] at hP1
            obtain ⟨hP, hD⟩ := va_join (wr := [(a0_from, .inl (cI, 40, .inl w0_from)), (a0_to, .inl (cI, 40, .inl w0_to)), (a0_near, .inl (cI, 12, .inl w0_near))]) (w1 := (wd_Mo_changed cI cJ cG cZ a0 a0_from a0_to a0_near a0_lists a0_colours a0_shades a0_tints a0_attempt a0_taken a0_isApart a0_ways a0_next a0_splits a0_powers a0_row a0_many a0_can a0_could a0_arcRow a0_order a0_isOut 0 v0_nodes v0_arcs v0_takenMany v0_leftBits v0_hasPolynomial_15 v0_hasLists_16)) hP hD [0] [1, 2, 3] rfl rfl (by decide) (by decide) hk1 hFc hP1 hD1
            have hP : va_P (dC, dI) vwCl (wd_Mo_arc cI cJ cG cZ a0 a0_from a0_to a0_near a0_lists a0_colours a0_shades a0_tints a0_attempt a0_taken a0_isApart a0_ways a0_next a0_splits a0_powers a0_row a0_many a0_can a0_could a0_arcRow a0_order a0_isOut 0 v0_nodes v0_arcs v0_takenMany v0_leftBits v0_hasPolynomial_15 v0_hasLists_16 w0_from w0_to w0_near) H1 := hP.sub [3, 0, 1, 2] rfl
            have hD : va_D A (wd_Mo_arc cI cJ cG cZ a0 a0_from a0_to a0_near a0_lists a0_colours a0_shades a0_tints a0_attempt a0_taken a0_isApart a0_ways a0_next a0_splits a0_powers a0_row a0_many a0_can a0_could a0_arcRow a0_order a0_isOut 0 v0_nodes v0_arcs v0_takenMany v0_leftBits v0_hasPolynomial_15 v0_hasLists_16 w0_from w0_to w0_near) := hD.sub [3, 0, 1, 2] (by decide) rfl
            clear hP1 hK1 hD1 hk1 hPc hDc hFc ht hvm hz1
            generalize H1 = H at hP hS ⊢
            refine lv_aload_n hx hb d_Mo_arc_55 rfl (lv_at hl 0 rfl) ?_
            refine va_get (D := (dC, dI)) (ci := 8) (v := .ref a0_from) (C := R_Mo) (T := T_Mo) (N := 28) hx hb htt hin_Mo hown hK hP 0 rfl rfl 3 (by decide) (htt _ kt_772) (fun _ h9 => h9) rfl d_Mo_arc_56 ?_
            refine lv_aload_n hx hb d_Mo_arc_59 rfl (lv_at hl 0 rfl) ?_
            refine va_get (D := (dC, dI)) (ci := 8) (v := .int v0_arcs) (C := R_Mo) (T := T_Mo) (N := 28) hx hb htt hin_Mo hown hK hP 0 rfl rfl 2 (by decide) (htt _ kt_771) (fun _ h9 => h9) rfl d_Mo_arc_60 ?_
            refine lv_iload_n hx hb d_Mo_arc_63 rfl (lv_at hl 1 rfl) ?_
            obtain ⟨hi_19, hm⟩ := gC_e hm
            refine va_iast hx hb hK hP hD hS 1 0 rfl rfl (inb_vp hi_19) d_Mo_arc_64 (fun H locs hP hD hS => ?_)
            have hP : va_P (dC, dI) vwCl (wd_Mo_arc cI cJ cG cZ a0 a0_from a0_to a0_near a0_lists a0_colours a0_shades a0_tints a0_attempt a0_taken a0_isApart a0_ways a0_next a0_splits a0_powers a0_row a0_many a0_can a0_could a0_arcRow a0_order a0_isOut 0 v0_nodes v0_arcs v0_takenMany v0_leftBits v0_hasPolynomial_15 v0_hasLists_16 (upd w0_from v0_arcs.toNatClampNeg p1) w0_to w0_near) H := hP
            have hD : va_D A (wd_Mo_arc cI cJ cG cZ a0 a0_from a0_to a0_near a0_lists a0_colours a0_shades a0_tints a0_attempt a0_taken a0_isApart a0_ways a0_next a0_splits a0_powers a0_row a0_many a0_can a0_could a0_arcRow a0_order a0_isOut 0 v0_nodes v0_arcs v0_takenMany v0_leftBits v0_hasPolynomial_15 v0_hasLists_16 (upd w0_from v0_arcs.toNatClampNeg p1) w0_to w0_near) := hD
            refine lv_aload_n hx hb d_Mo_arc_65 rfl (lv_at hl 0 rfl) ?_
            refine va_get (D := (dC, dI)) (ci := 8) (v := .ref a0_to) (C := R_Mo) (T := T_Mo) (N := 28) hx hb htt hin_Mo hown hK hP 0 rfl rfl 4 (by decide) (htt _ kt_773) (fun _ h9 => h9) rfl d_Mo_arc_66 ?_
            refine lv_aload_n hx hb d_Mo_arc_69 rfl (lv_at hl 0 rfl) ?_
            refine va_get (D := (dC, dI)) (ci := 8) (v := .int v0_arcs) (C := R_Mo) (T := T_Mo) (N := 28) hx hb htt hin_Mo hown hK hP 0 rfl rfl 2 (by decide) (htt _ kt_771) (fun _ h9 => h9) rfl d_Mo_arc_70 ?_
            refine lv_iload_n hx hb d_Mo_arc_73 rfl (lv_at hl 2 rfl) ?_
            obtain ⟨hi_20, hm⟩ := gC_e hm
            refine va_iast hx hb hK hP hD hS 2 0 rfl rfl (inb_vp hi_20) d_Mo_arc_74 (fun H locs hP hD hS => ?_)
            have hP : va_P (dC, dI) vwCl (wd_Mo_arc cI cJ cG cZ a0 a0_from a0_to a0_near a0_lists a0_colours a0_shades a0_tints a0_attempt a0_taken a0_isApart a0_ways a0_next a0_splits a0_powers a0_row a0_many a0_can a0_could a0_arcRow a0_order a0_isOut 0 v0_nodes v0_arcs v0_takenMany v0_leftBits v0_hasPolynomial_15 v0_hasLists_16 (upd w0_from v0_arcs.toNatClampNeg p1) (upd w0_to v0_arcs.toNatClampNeg p2) w0_near) H := hP
            have hD : va_D A (wd_Mo_arc cI cJ cG cZ a0 a0_from a0_to a0_near a0_lists a0_colours a0_shades a0_tints a0_attempt a0_taken a0_isApart a0_ways a0_next a0_splits a0_powers a0_row a0_many a0_can a0_could a0_arcRow a0_order a0_isOut 0 v0_nodes v0_arcs v0_takenMany v0_leftBits v0_hasPolynomial_15 v0_hasLists_16 (upd w0_from v0_arcs.toNatClampNeg p1) (upd w0_to v0_arcs.toNatClampNeg p2) w0_near) := hD
            refine lv_aload_n hx hb d_Mo_arc_75 rfl (lv_at hl 0 rfl) ?_
            refine va_get (D := (dC, dI)) (ci := 8) (v := .ref a0_near) (C := R_Mo) (T := T_Mo) (N := 28) hx hb htt hin_Mo hown hK hP 0 rfl rfl 5 (by decide) (htt _ kt_774) (fun _ h9 => h9) rfl d_Mo_arc_76 ?_
            refine lv_iload_n hx hb d_Mo_arc_79 rfl (lv_at hl 1 rfl) ?_
            refine lv_dup2_11 hx hb d_Mo_arc_80 rfl rfl ?_
            obtain ⟨hi_21, hm⟩ := gC_e hm
            refine va_iald hx hb hK hP 3 0 rfl rfl (inb_vp hi_21) d_Mo_arc_81 ?_
            refine lv_iconst (v := 1) hx hb d_Mo_arc_82 (by decide) ?_
            refine lv_iload_n hx hb d_Mo_arc_83 rfl (lv_at hl 2 rfl) ?_
            refine lv_ishl hx hb d_Mo_arc_84 ?_
            refine lv_ior hx hb d_Mo_arc_85 ?_
            obtain ⟨hi_22, hm⟩ := gC_e hm
            refine va_iast hx hb hK hP hD hS 3 0 rfl rfl (inb_vp hi_22) d_Mo_arc_86 (fun H locs hP hD hS => ?_)
            have hP : va_P (dC, dI) vwCl (wd_Mo_arc cI cJ cG cZ a0 a0_from a0_to a0_near a0_lists a0_colours a0_shades a0_tints a0_attempt a0_taken a0_isApart a0_ways a0_next a0_splits a0_powers a0_row a0_many a0_can a0_could a0_arcRow a0_order a0_isOut 0 v0_nodes v0_arcs v0_takenMany v0_leftBits v0_hasPolynomial_15 v0_hasLists_16 (upd w0_from v0_arcs.toNatClampNeg p1) (upd w0_to v0_arcs.toNatClampNeg p2) (upd w0_near p1.toNatClampNeg ((w0_near p1.toNatClampNeg) ||| ((1 : Int32) <<< (p2 &&& 31))))) H := hP
            have hD : va_D A (wd_Mo_arc cI cJ cG cZ a0 a0_from a0_to a0_near a0_lists a0_colours a0_shades a0_tints a0_attempt a0_taken a0_isApart a0_ways a0_next a0_splits a0_powers a0_row a0_many a0_can a0_could a0_arcRow a0_order a0_isOut 0 v0_nodes v0_arcs v0_takenMany v0_leftBits v0_hasPolynomial_15 v0_hasLists_16 (upd w0_from v0_arcs.toNatClampNeg p1) (upd w0_to v0_arcs.toNatClampNeg p2) (upd w0_near p1.toNatClampNeg ((w0_near p1.toNatClampNeg) ||| ((1 : Int32) <<< (p2 &&& 31))))) := hD
            refine lv_aload_n hx hb d_Mo_arc_87 rfl (lv_at hl 0 rfl) ?_
            refine va_get (D := (dC, dI)) (ci := 8) (v := .ref a0_near) (C := R_Mo) (T := T_Mo) (N := 28) hx hb htt hin_Mo hown hK hP 0 rfl rfl 5 (by decide) (htt _ kt_774) (fun _ h9 => h9) rfl d_Mo_arc_88 ?_
            refine lv_iload_n hx hb d_Mo_arc_91 rfl (lv_at hl 2 rfl) ?_
            refine lv_dup2_11 hx hb d_Mo_arc_92 rfl rfl ?_
            obtain ⟨hi_23, hm⟩ := gC_e hm
            refine va_iald hx hb hK hP 3 0 rfl rfl (inb_vp hi_23) d_Mo_arc_93 ?_
            refine lv_iconst (v := 1) hx hb d_Mo_arc_94 (by decide) ?_
            refine lv_iload_n hx hb d_Mo_arc_95 rfl (lv_at hl 1 rfl) ?_
            refine lv_ishl hx hb d_Mo_arc_96 ?_
            refine lv_ior hx hb d_Mo_arc_97 ?_
            obtain ⟨hi_24, hm⟩ := gC_e hm
            refine va_iast hx hb hK hP hD hS 3 0 rfl rfl (inb_vp hi_24) d_Mo_arc_98 (fun H locs hP hD hS => ?_)
            have hP : va_P (dC, dI) vwCl (wd_Mo_arc cI cJ cG cZ a0 a0_from a0_to a0_near a0_lists a0_colours a0_shades a0_tints a0_attempt a0_taken a0_isApart a0_ways a0_next a0_splits a0_powers a0_row a0_many a0_can a0_could a0_arcRow a0_order a0_isOut 0 v0_nodes v0_arcs v0_takenMany v0_leftBits v0_hasPolynomial_15 v0_hasLists_16 (upd w0_from v0_arcs.toNatClampNeg p1) (upd w0_to v0_arcs.toNatClampNeg p2) (upd (upd w0_near p1.toNatClampNeg ((w0_near p1.toNatClampNeg) ||| ((1 : Int32) <<< (p2 &&& 31)))) p2.toNatClampNeg (((upd w0_near p1.toNatClampNeg ((w0_near p1.toNatClampNeg) ||| ((1 : Int32) <<< (p2 &&& 31)))) p2.toNatClampNeg) ||| ((1 : Int32) <<< (p1 &&& 31))))) H := hP
            have hD : va_D A (wd_Mo_arc cI cJ cG cZ a0 a0_from a0_to a0_near a0_lists a0_colours a0_shades a0_tints a0_attempt a0_taken a0_isApart a0_ways a0_next a0_splits a0_powers a0_row a0_many a0_can a0_could a0_arcRow a0_order a0_isOut 0 v0_nodes v0_arcs v0_takenMany v0_leftBits v0_hasPolynomial_15 v0_hasLists_16 (upd w0_from v0_arcs.toNatClampNeg p1) (upd w0_to v0_arcs.toNatClampNeg p2) (upd (upd w0_near p1.toNatClampNeg ((w0_near p1.toNatClampNeg) ||| ((1 : Int32) <<< (p2 &&& 31)))) p2.toNatClampNeg (((upd w0_near p1.toNatClampNeg ((w0_near p1.toNatClampNeg) ||| ((1 : Int32) <<< (p2 &&& 31)))) p2.toNatClampNeg) ||| ((1 : Int32) <<< (p1 &&& 31))))) := hD
            refine lv_aload_n hx hb d_Mo_arc_99 rfl (lv_at hl 0 rfl) ?_
            refine lv_dup hx hb d_Mo_arc_100 rfl ?_
            refine va_get (D := (dC, dI)) (ci := 8) (v := .int v0_arcs) (C := R_Mo) (T := T_Mo) (N := 28) hx hb htt hin_Mo hown hK hP 0 rfl rfl 2 (by decide) (htt _ kt_771) (fun _ h9 => h9) rfl d_Mo_arc_101 ?_
            refine lv_iconst (v := 1) hx hb d_Mo_arc_104 (by decide) ?_
            refine lv_iadd hx hb d_Mo_arc_105 ?_
            refine lv_topi (fun f_25 ef_25 => ?_)
            have hm := gB_at ef_25 hm
            refine va_put (D := (dC, dI)) (ci := 8) (v := .int f_25) (ty := .int) (C := R_Mo) (T := T_Mo) (N := 28) hx hb htt hin_Mo ty_Mo tyok_Mo nm_Mo hown hK hP hD hS 0 rfl rfl 2 (by decide) (htt _ kt_771) (fun _ h9 => h9) rfl (by decide +kernel) rfl rfl (Nat.le_of_ble_eq_true rfl) d_Mo_arc_106 (fun H locs hP hD hS => ?_)
            have hP : va_P (dC, dI) vwCl (wd_Mo_arc cI cJ cG cZ a0 a0_from a0_to a0_near a0_lists a0_colours a0_shades a0_tints a0_attempt a0_taken a0_isApart a0_ways a0_next a0_splits a0_powers a0_row a0_many a0_can a0_could a0_arcRow a0_order a0_isOut 0 v0_nodes f_25 v0_takenMany v0_leftBits v0_hasPolynomial_15 v0_hasLists_16 (upd w0_from v0_arcs.toNatClampNeg p1) (upd w0_to v0_arcs.toNatClampNeg p2) (upd (upd w0_near p1.toNatClampNeg ((w0_near p1.toNatClampNeg) ||| ((1 : Int32) <<< (p2 &&& 31)))) p2.toNatClampNeg (((upd w0_near p1.toNatClampNeg ((w0_near p1.toNatClampNeg) ||| ((1 : Int32) <<< (p2 &&& 31)))) p2.toNatClampNeg) ||| ((1 : Int32) <<< (p1 &&& 31))))) H := hP
            have hD : va_D A (wd_Mo_arc cI cJ cG cZ a0 a0_from a0_to a0_near a0_lists a0_colours a0_shades a0_tints a0_attempt a0_taken a0_isApart a0_ways a0_next a0_splits a0_powers a0_row a0_many a0_can a0_could a0_arcRow a0_order a0_isOut 0 v0_nodes f_25 v0_takenMany v0_leftBits v0_hasPolynomial_15 v0_hasLists_16 (upd w0_from v0_arcs.toNatClampNeg p1) (upd w0_to v0_arcs.toNatClampNeg p2) (upd (upd w0_near p1.toNatClampNeg ((w0_near p1.toNatClampNeg) ||| ((1 : Int32) <<< (p2 &&& 31)))) p2.toNatClampNeg (((upd w0_near p1.toNatClampNeg ((w0_near p1.toNatClampNeg) ||| ((1 : Int32) <<< (p2 &&& 31)))) p2.toNatClampNeg) ||| ((1 : Int32) <<< (p1 &&& 31))))) := hD
            refine lv_aload_n hx hb d_Mo_arc_109 rfl (lv_at hl 0 rfl) ?_
            refine va_get (D := (dC, dI)) (ci := 8) (v := .int f_25) (C := R_Mo) (T := T_Mo) (N := 28) hx hb htt hin_Mo hown hK hP 0 rfl rfl 2 (by decide) (htt _ kt_771) (fun _ h9 => h9) rfl d_Mo_arc_110 ?_
            refine lv_iconst (v := 1) hx hb d_Mo_arc_113 (by decide) ?_
            refine lv_isub hx hb d_Mo_arc_114 ?_
            cases hm
            exact W.iret hx hb hr (fun t ht hW => ⟨⟨_, (), rfl, rfl, by rw [ht]; exact hP, va_K.moved hW.alike hK, hD⟩, hS.F ht⟩) hS.2.2 d_Mo_arc_115
          · have hm := ite_t c_14 hm
            refine lv_iconst (v := (-1)) hx hb d_Mo_arc_49 (by decide) ?_
            cases hm
            exact W.iret hx hb hr (fun t ht hW => ⟨⟨_, (), rfl, rfl, by rw [ht]; exact hP, va_K.moved hW.alike hK, hD⟩, hS.F ht⟩) hS.2.2 d_Mo_arc_50
theorem d_Mo_drop_0 : decode prog_10_method_7_code 0 = .ok (.aload_n 0, 1) := by decide +kernel
theorem d_Mo_drop_1 : decode prog_10_method_7_code 1 = .ok (.iconst 0, 1) := by decide +kernel
theorem d_Mo_drop_2 : decode prog_10_method_7_code 2 = .ok (.putfield 79, 3) := by decide +kernel
theorem d_Mo_drop_5 : decode prog_10_method_7_code 5 = .ok (.aload_n 0, 1) := by decide +kernel
theorem d_Mo_drop_6 : decode prog_10_method_7_code 6 = .ok (.getfield 89, 3) := by decide +kernel
theorem d_Mo_drop_9 : decode prog_10_method_7_code 9 = .ok (.ifCond .ne 5, 3) := by decide +kernel
theorem d_Mo_drop_12 : decode prog_10_method_7_code 12 = .ok (.iconst 0, 1) := by decide +kernel
theorem d_Mo_drop_13 : decode prog_10_method_7_code 13 = .ok (.ireturn, 1) := by decide +kernel
theorem d_Mo_drop_14 : decode prog_10_method_7_code 14 = .ok (.aload_n 0, 1) := by decide +kernel
theorem d_Mo_drop_15 : decode prog_10_method_7_code 15 = .ok (.invokevirtual 83, 3) := by decide +kernel
theorem d_Mo_drop_18 : decode prog_10_method_7_code 18 = .ok (.aload_n 0, 1) := by decide +kernel
theorem d_Mo_drop_19 : decode prog_10_method_7_code 19 = .ok (.dup, 1) := by decide +kernel
theorem d_Mo_drop_20 : decode prog_10_method_7_code 20 = .ok (.getfield 89, 3) := by decide +kernel
theorem d_Mo_drop_23 : decode prog_10_method_7_code 23 = .ok (.iconst 1, 1) := by decide +kernel
theorem d_Mo_drop_24 : decode prog_10_method_7_code 24 = .ok (.isub, 1) := by decide +kernel
theorem d_Mo_drop_25 : decode prog_10_method_7_code 25 = .ok (.putfield 89, 3) := by decide +kernel
theorem d_Mo_drop_28 : decode prog_10_method_7_code 28 = .ok (.aload_n 0, 1) := by decide +kernel
theorem d_Mo_drop_29 : decode prog_10_method_7_code 29 = .ok (.getfield 16, 3) := by decide +kernel
theorem d_Mo_drop_32 : decode prog_10_method_7_code 32 = .ok (.aload_n 0, 1) := by decide +kernel
theorem d_Mo_drop_33 : decode prog_10_method_7_code 33 = .ok (.getfield 7, 3) := by decide +kernel
theorem d_Mo_drop_36 : decode prog_10_method_7_code 36 = .ok (.aload_n 0, 1) := by decide +kernel
theorem d_Mo_drop_37 : decode prog_10_method_7_code 37 = .ok (.getfield 89, 3) := by decide +kernel
theorem d_Mo_drop_40 : decode prog_10_method_7_code 40 = .ok (.iaload, 1) := by decide +kernel
theorem d_Mo_drop_41 : decode prog_10_method_7_code 41 = .ok (.dup2, 1) := by decide +kernel
theorem d_Mo_drop_42 : decode prog_10_method_7_code 42 = .ok (.iaload, 1) := by decide +kernel
theorem d_Mo_drop_43 : decode prog_10_method_7_code 43 = .ok (.iconst 1, 1) := by decide +kernel
theorem d_Mo_drop_44 : decode prog_10_method_7_code 44 = .ok (.aload_n 0, 1) := by decide +kernel
theorem d_Mo_drop_45 : decode prog_10_method_7_code 45 = .ok (.getfield 13, 3) := by decide +kernel
theorem d_Mo_drop_48 : decode prog_10_method_7_code 48 = .ok (.aload_n 0, 1) := by decide +kernel
theorem d_Mo_drop_49 : decode prog_10_method_7_code 49 = .ok (.getfield 89, 3) := by decide +kernel
theorem d_Mo_drop_52 : decode prog_10_method_7_code 52 = .ok (.iaload, 1) := by decide +kernel
theorem d_Mo_drop_53 : decode prog_10_method_7_code 53 = .ok (.ishl, 1) := by decide +kernel
theorem d_Mo_drop_54 : decode prog_10_method_7_code 54 = .ok (.iconst (-1), 1) := by decide +kernel
theorem d_Mo_drop_55 : decode prog_10_method_7_code 55 = .ok (.ixor, 1) := by decide +kernel
theorem d_Mo_drop_56 : decode prog_10_method_7_code 56 = .ok (.iand, 1) := by decide +kernel
theorem d_Mo_drop_57 : decode prog_10_method_7_code 57 = .ok (.iastore, 1) := by decide +kernel
theorem d_Mo_drop_58 : decode prog_10_method_7_code 58 = .ok (.aload_n 0, 1) := by decide +kernel
theorem d_Mo_drop_59 : decode prog_10_method_7_code 59 = .ok (.getfield 16, 3) := by decide +kernel
theorem d_Mo_drop_62 : decode prog_10_method_7_code 62 = .ok (.aload_n 0, 1) := by decide +kernel
theorem d_Mo_drop_63 : decode prog_10_method_7_code 63 = .ok (.getfield 13, 3) := by decide +kernel
theorem d_Mo_drop_66 : decode prog_10_method_7_code 66 = .ok (.aload_n 0, 1) := by decide +kernel
theorem d_Mo_drop_67 : decode prog_10_method_7_code 67 = .ok (.getfield 89, 3) := by decide +kernel
theorem d_Mo_drop_70 : decode prog_10_method_7_code 70 = .ok (.iaload, 1) := by decide +kernel
theorem d_Mo_drop_71 : decode prog_10_method_7_code 71 = .ok (.dup2, 1) := by decide +kernel
theorem d_Mo_drop_72 : decode prog_10_method_7_code 72 = .ok (.iaload, 1) := by decide +kernel
theorem d_Mo_drop_73 : decode prog_10_method_7_code 73 = .ok (.iconst 1, 1) := by decide +kernel
theorem d_Mo_drop_74 : decode prog_10_method_7_code 74 = .ok (.aload_n 0, 1) := by decide +kernel
theorem d_Mo_drop_75 : decode prog_10_method_7_code 75 = .ok (.getfield 7, 3) := by decide +kernel
theorem d_Mo_drop_78 : decode prog_10_method_7_code 78 = .ok (.aload_n 0, 1) := by decide +kernel
theorem d_Mo_drop_79 : decode prog_10_method_7_code 79 = .ok (.getfield 89, 3) := by decide +kernel
theorem d_Mo_drop_82 : decode prog_10_method_7_code 82 = .ok (.iaload, 1) := by decide +kernel
theorem d_Mo_drop_83 : decode prog_10_method_7_code 83 = .ok (.ishl, 1) := by decide +kernel
theorem d_Mo_drop_84 : decode prog_10_method_7_code 84 = .ok (.iconst (-1), 1) := by decide +kernel
theorem d_Mo_drop_85 : decode prog_10_method_7_code 85 = .ok (.ixor, 1) := by decide +kernel
theorem d_Mo_drop_86 : decode prog_10_method_7_code 86 = .ok (.iand, 1) := by decide +kernel
theorem d_Mo_drop_87 : decode prog_10_method_7_code 87 = .ok (.iastore, 1) := by decide +kernel
theorem d_Mo_drop_88 : decode prog_10_method_7_code 88 = .ok (.aload_n 0, 1) := by decide +kernel
theorem d_Mo_drop_89 : decode prog_10_method_7_code 89 = .ok (.getfield 25, 3) := by decide +kernel
theorem d_Mo_drop_92 : decode prog_10_method_7_code 92 = .ok (.aload_n 0, 1) := by decide +kernel
theorem d_Mo_drop_93 : decode prog_10_method_7_code 93 = .ok (.getfield 89, 3) := by decide +kernel
theorem d_Mo_drop_96 : decode prog_10_method_7_code 96 = .ok (.iconst (-1), 1) := by decide +kernel
theorem d_Mo_drop_97 : decode prog_10_method_7_code 97 = .ok (.iastore, 1) := by decide +kernel
theorem d_Mo_drop_98 : decode prog_10_method_7_code 98 = .ok (.iconst 1, 1) := by decide +kernel
theorem d_Mo_drop_99 : decode prog_10_method_7_code 99 = .ok (.ireturn, 1) := by decide +kernel
abbrev wd_Mo_drop (cI cJ cG cZ : ClassId) (a0 a0_from a0_to a0_near a0_lists a0_colours a0_shades a0_tints a0_attempt a0_taken a0_isApart a0_ways a0_next a0_splits a0_powers a0_row a0_many a0_can a0_could a0_arcRow a0_order a0_isOut : Nat) (v0_thrown : Int32) (v0_nodes : Int32) (v0_arcs : Int32) (v0_takenMany : Int32) (v0_leftBits : Int32) (v0_hasPolynomial : Int32) (v0_hasLists : Int32) (w0_from : Nat → Int32) (w0_to : Nat → Int32) (w0_near : Nat → Int32) (w0_shades : Nat → Int32) : va_W := [(a0, .inr (8, [.int v0_thrown, .int v0_nodes, .int v0_arcs, .ref a0_from, .ref a0_to, .ref a0_near, .ref a0_lists, .ref a0_colours, .ref a0_shades, .ref a0_tints, .ref a0_attempt, .int v0_takenMany, .ref a0_taken, .int v0_leftBits, .ref a0_isApart, .ref a0_ways, .ref a0_next, .ref a0_splits, .ref a0_powers, .ref a0_row, .ref a0_many, .int v0_hasPolynomial, .int v0_hasLists, .ref a0_can, .ref a0_could, .ref a0_arcRow, .ref a0_order, .ref a0_isOut])), (a0_from, .inl (cI, 40, .inl w0_from)), (a0_to, .inl (cI, 40, .inl w0_to)), (a0_near, .inl (cI, 12, .inl w0_near)), (a0_shades, .inl (cI, 40, .inl w0_shades))]
abbrev us_Mo_drop : List Cond := .code y_Mo_drop prog_10_method_7_code 1 (some .boolean) :: gtbl
abbrev rm_Mo_drop : Room := { frames := 1, cells := 0, slots := 0, locals := 20 }
def m_Mo_drop (F : Nat) (v0_thrown : Int32) (v0_nodes : Int32) (v0_arcs : Int32) (v0_takenMany : Int32) (v0_leftBits : Int32) (v0_hasPolynomial : Int32) (v0_hasLists : Int32) (w0_from : Nat → Int32) (w0_to : Nat → Int32) (w0_near : Nat → Int32) (w0_shades : Nat → Int32) : Option (Int32 × Int32 × Int32 × Int32 × Int32 × (Nat → Int32) × (Nat → Int32)) :=
  if v0_arcs = 0 then (
    some (0, 0, v0_arcs, v0_hasPolynomial, v0_hasLists, w0_near, w0_shades)
  ) else (
    gM (m_Mo_changed F 0 v0_nodes v0_arcs v0_takenMany v0_leftBits v0_hasPolynomial v0_hasLists) (fun (z_5 : Int32 × Int32) => match z_5 with
    | (v0_hasPolynomial_2, v0_hasLists_3) =>
    gB (v0_arcs - 1) (fun f_6 =>
    gC (inb f_6 40) (
    gC (inb (w0_from f_6.toNatClampNeg) 12) (
    gC (inb f_6 40) (
    gC (inb (w0_from f_6.toNatClampNeg) 12) (
    gC (inb f_6 40) (
    gC (inb (w0_to f_6.toNatClampNeg) 12) (
    gC (inb f_6 40) (
    gC (inb (w0_to f_6.toNatClampNeg) 12) (
    gC (inb f_6 40) (
    some (1, 0, f_6, v0_hasPolynomial_2, v0_hasLists_3, upd (upd w0_near (w0_from f_6.toNatClampNeg).toNatClampNeg ((w0_near (w0_from f_6.toNatClampNeg).toNatClampNeg) &&& (((1 : Int32) <<< ((w0_to f_6.toNatClampNeg) &&& 31)) ^^^ (-1)))) (w0_to f_6.toNatClampNeg).toNatClampNeg (((upd w0_near (w0_from f_6.toNatClampNeg).toNatClampNeg ((w0_near (w0_from f_6.toNatClampNeg).toNatClampNeg) &&& (((1 : Int32) <<< ((w0_to f_6.toNatClampNeg) &&& 31)) ^^^ (-1)))) (w0_to f_6.toNatClampNeg).toNatClampNeg) &&& (((1 : Int32) <<< ((w0_from f_6.toNatClampNeg) &&& 31)) ^^^ (-1))), upd w0_shades f_6.toNatClampNeg (-1)))))))))))))
  )
set_option maxHeartbeats 4000000 in
set_option maxRecDepth 100000 in
theorem c_Mo_drop (l : Launch) (dC : Nat → ClassId) (dI : Nat → Nat → Nat) (cI cJ cG cZ : ClassId) (a0 a0_from a0_to a0_near a0_lists a0_colours a0_shades a0_tints a0_attempt a0_taken a0_isApart a0_ways a0_next a0_splits a0_powers a0_row a0_many a0_can a0_could a0_arcRow a0_order a0_isOut : Nat) (sz : Nat) (F : Nat) (v0_thrown : Int32) (v0_nodes : Int32) (v0_arcs : Int32) (v0_takenMany : Int32) (v0_leftBits : Int32) (v0_hasPolynomial : Int32) (v0_hasLists : Int32) (w0_from : Nat → Int32) (w0_to : Nat → Int32) (w0_near : Nat → Int32) (w0_shades : Nat → Int32) (ret : Int32) (o_v0_thrown : Int32) (o_v0_arcs : Int32) (o_v0_hasPolynomial : Int32) (o_v0_hasLists : Int32) (o_w0_near : Nat → Int32) (o_w0_shades : Nat → Int32) (hm : m_Mo_drop F v0_thrown v0_nodes v0_arcs v0_takenMany v0_leftBits v0_hasPolynomial v0_hasLists w0_from w0_to w0_near w0_shades = some (ret, o_v0_thrown, o_v0_arcs, o_v0_hasPolynomial, o_v0_hasLists, o_w0_near, o_w0_shades)) : Met l y_Mo_drop us_Mo_drop rm_Mo_drop (PcS (dC, dI) (tyL cI cJ cG cZ) [.ref a0] sz (wd_Mo_drop cI cJ cG cZ a0 a0_from a0_to a0_near a0_lists a0_colours a0_shades a0_tints a0_attempt a0_taken a0_isApart a0_ways a0_next a0_splits a0_powers a0_row a0_many a0_can a0_could a0_arcRow a0_order a0_isOut v0_thrown v0_nodes v0_arcs v0_takenMany v0_leftBits v0_hasPolynomial v0_hasLists w0_from w0_to w0_near w0_shades)) (va_Qi (fun (r : Int32) (_ : Unit) => ret = r ∧ bz r) (fun _ t => PoS (dC, dI) (tyL cI cJ cG cZ) (wd_Mo_drop cI cJ cG cZ a0 a0_from a0_to a0_near a0_lists a0_colours a0_shades a0_tints a0_attempt a0_taken a0_isApart a0_ways a0_next a0_splits a0_powers a0_row a0_many a0_can a0_could a0_arcRow a0_order a0_isOut o_v0_thrown v0_nodes o_v0_arcs v0_takenMany v0_leftBits o_v0_hasPolynomial o_v0_hasLists w0_from w0_to o_w0_near o_w0_shades) (va_A (wd_Mo_drop cI cJ cG cZ a0 a0_from a0_to a0_near a0_lists a0_colours a0_shades a0_tints a0_attempt a0_taken a0_isApart a0_ways a0_next a0_splits a0_powers a0_row a0_many a0_can a0_could a0_arcRow a0_order a0_isOut v0_thrown v0_nodes v0_arcs v0_takenMany v0_leftBits v0_hasPolynomial v0_hasLists w0_from w0_to w0_near w0_shades) sz) t) (va_A (wd_Mo_drop cI cJ cG cZ a0 a0_from a0_to a0_near a0_lists a0_colours a0_shades a0_tints a0_attempt a0_taken a0_isApart a0_ways a0_next a0_splits a0_powers a0_row a0_many a0_can a0_could a0_arcRow a0_order a0_isOut v0_thrown v0_nodes v0_arcs v0_takenMany v0_leftBits v0_hasPolynomial v0_hasLists w0_from w0_to w0_near w0_shades) sz)) 0 0 (va_A (wd_Mo_drop cI cJ cG cZ a0 a0_from a0_to a0_near a0_lists a0_colours a0_shades a0_tints a0_attempt a0_taken a0_isApart a0_ways a0_next a0_splits a0_powers a0_row a0_many a0_can a0_could a0_arcRow a0_order a0_isOut v0_thrown v0_nodes v0_arcs v0_takenMany v0_leftBits v0_hasPolynomial v0_hasLists w0_from w0_to w0_near w0_shades) sz) := by
  refine Met.ofW (cc := prog_10_method_7_code) (maxL := 1) (ret := (some .boolean)) (by decide) rfl ?_
  intro p e s m args below meth c s₁ B hml hv
  obtain ⟨rfl, hsz, hP, hK, hD0, hNw⟩ := hv
  have hx := B.exec
  have hb := B.bytes
  have hr := B.returns
  have htt : ∀ w ∈ gtbl, w.before _ s = true := fun w h => atoms_spec (ws := us_Mo_drop) B.pre w (List.mem_cons_of_mem _ h)
  have hown : s.vm.findClass R_Mo = some m.cls := findClass_of_methodNamed B.named
  have hlocks := B.notSynchronized
  subst hsz
  have hD := hD0.self (sz := s.heap.size)
  generalize hAe : va_A (wd_Mo_drop cI cJ cG cZ a0 a0_from a0_to a0_near a0_lists a0_colours a0_shades a0_tints a0_attempt a0_taken a0_isApart a0_ways a0_next a0_splits a0_powers a0_row a0_many a0_can a0_could a0_arcRow a0_order a0_isOut v0_thrown v0_nodes v0_arcs v0_takenMany v0_leftBits v0_hasPolynomial v0_hasLists w0_from w0_to w0_near w0_shades) s.heap.size = A at hD ⊢
  have hA : ∀ q : Nat, s.heap.size ≤ q → A q := fun q h => by rw [← hAe]; exact Or.inr h
  clear hAe hD0
  have hS : va_S A s.heap s.heap [] := va_S.rf
  have hl := lv_entry ([.ref a0]) (n := 1) (Nat.le_of_ble_eq_true rfl)
  rw [lg_entry_eq]
  generalize (lg_sl ([.ref a0]) ++ List.replicate (1 - (lg_sl ([.ref a0])).length) Slot.unset).toArray = ls at hl ⊢
  have hl : lv_has ls 1 [(0, .ref a0)] := hl
  generalize hH : s.heap = H at hP ⊢
  have hS : va_S A s.heap H [] := hH ▸ hS
  generalize hLo : ([] : List Loc) = locs at hS ⊢
  clear hH hLo
  unfold m_Mo_drop at hm
  refine lv_aload_n hx hb d_Mo_drop_0 rfl (lv_at hl 0 rfl) ?_
  refine lv_iconst (v := 0) hx hb d_Mo_drop_1 (by decide) ?_
  refine va_put (D := (dC, dI)) (ci := 8) (v := .int 0) (ty := .int) (C := R_Mo) (T := T_Mo) (N := 28) hx hb htt hin_Mo ty_Mo tyok_Mo nm_Mo hown hK hP hD hS 0 rfl rfl 0 (by decide) (htt _ kt_769) (fun _ h9 => h9) rfl (by decide +kernel) rfl rfl (Nat.le_of_ble_eq_true rfl) d_Mo_drop_2 (fun H locs hP hD hS => ?_)
  have hP : va_P (dC, dI) vwCl (wd_Mo_drop cI cJ cG cZ a0 a0_from a0_to a0_near a0_lists a0_colours a0_shades a0_tints a0_attempt a0_taken a0_isApart a0_ways a0_next a0_splits a0_powers a0_row a0_many a0_can a0_could a0_arcRow a0_order a0_isOut 0 v0_nodes v0_arcs v0_takenMany v0_leftBits v0_hasPolynomial v0_hasLists w0_from w0_to w0_near w0_shades) H := hP
  have hD : va_D A (wd_Mo_drop cI cJ cG cZ a0 a0_from a0_to a0_near a0_lists a0_colours a0_shades a0_tints a0_attempt a0_taken a0_isApart a0_ways a0_next a0_splits a0_powers a0_row a0_many a0_can a0_could a0_arcRow a0_order a0_isOut 0 v0_nodes v0_arcs v0_takenMany v0_leftBits v0_hasPolynomial v0_hasLists w0_from w0_to w0_near w0_shades) := hD
  refine lv_aload_n hx hb d_Mo_drop_5 rfl (lv_at hl 0 rfl) ?_
  refine va_get (D := (dC, dI)) (ci := 8) (v := .int v0_arcs) (C := R_Mo) (T := T_Mo) (N := 28) hx hb htt hin_Mo hown hK hP 0 rfl rfl 2 (by decide) (htt _ kt_771) (fun _ h9 => h9) rfl d_Mo_drop_6 ?_
  refine lv_if_ne (tgt := 14) hx hb d_Mo_drop_9 (by decide) (fun c_1 => ?_) (fun c_1 => ?_)
  · have hm := ite_f c_1 hm
    refine lv_aload_n hx hb d_Mo_drop_14 rfl (lv_at hl 0 rfl) ?_
    obtain ⟨⟨v0_hasPolynomial_2, v0_hasLists_3⟩, hc_4, hm⟩ := gM_e hm
    dsimp only at hm
    have hPc : va_P (dC, dI) vwCl (wd_Mo_changed cI cJ cG cZ a0 a0_from a0_to a0_near a0_lists a0_colours a0_shades a0_tints a0_attempt a0_taken a0_isApart a0_ways a0_next a0_splits a0_powers a0_row a0_many a0_can a0_could a0_arcRow a0_order a0_isOut 0 v0_nodes v0_arcs v0_takenMany v0_leftBits v0_hasPolynomial v0_hasLists) H := hP.sub [0] rfl
    have hDc : va_D A (wd_Mo_changed cI cJ cG cZ a0 a0_from a0_to a0_near a0_lists a0_colours a0_shades a0_tints a0_attempt a0_taken a0_isApart a0_ways a0_next a0_splits a0_powers a0_row a0_many a0_can a0_could a0_arcRow a0_order a0_isOut 0 v0_nodes v0_arcs v0_takenMany v0_leftBits v0_hasPolynomial v0_hasLists) := hD.sub [0] (by decide) rfl
    have hFc : ∀ q, va_A (wd_Mo_changed cI cJ cG cZ a0 a0_from a0_to a0_near a0_lists a0_colours a0_shades a0_tints a0_attempt a0_taken a0_isApart a0_ways a0_next a0_splits a0_powers a0_row a0_many a0_can a0_could a0_arcRow a0_order a0_isOut 0 v0_nodes v0_arcs v0_takenMany v0_leftBits v0_hasPolynomial v0_hasLists) H.size q → A q := va_free hD hS hA [0] rfl
    refine va_callv (va_runV (As := []) (rest := []) ⟨hx, hb, hml, hown, htt⟩ (c_Mo_changed l dC dI cI cJ cG cZ a0 a0_from a0_to a0_near a0_lists a0_colours a0_shades a0_tints a0_attempt a0_taken a0_isApart a0_ways a0_next a0_splits a0_powers a0_row a0_many a0_can a0_could a0_arcRow a0_order a0_isOut H.size F 0 v0_nodes v0_arcs v0_takenMany v0_leftBits v0_hasPolynomial v0_hasLists v0_hasPolynomial_2 v0_hasLists_3 hc_4) (cwV 0 htt (gdV kt_765 kt_767 kp_42 kt_10 kt_768) rfl rfl rfl (by decide +kernel) ⟨(Nat.le_of_ble_eq_true rfl), (Nat.le_of_ble_eq_true rfl)⟩) ⟨PcS_blind, va_recv hK hPc (ci := 8) (q0 := 0) rfl rfl, PcS_in hPc hK hDc hNw⟩ rfl rfl hl.1 rfl (lv_room (Nat.le_of_ble_eq_true rfl)) d_Mo_drop_15 ⟨Nat.zero_le _, Nat.zero_le _⟩) hS (fun q _ h => hFc q h) hFc (fun u t H1 locs ht hvm hw hB hz1 hk1 hS => ?_)
    obtain ⟨hP1, hK1, hD1⟩ := hB
    rw [ht] at hP1
    obtain ⟨hP, hD⟩ := va_join (wr := [(a0_from, .inl (cI, 40, .inl w0_from)), (a0_to, .inl (cI, 40, .inl w0_to)), (a0_near, .inl (cI, 12, .inl w0_near)), (a0_shades, .inl (cI, 40, .inl w0_shades))]) (w1 := (wd_Mo_changed cI cJ cG cZ a0 a0_from a0_to a0_near a0_lists a0_colours a0_shades a0_tints a0_attempt a0_taken a0_isApart a0_ways a0_next a0_splits a0_powers a0_row a0_many a0_can a0_could a0_arcRow a0_order a0_isOut 0 v0_nodes v0_arcs v0_takenMany v0_leftBits v0_hasPolynomial_2 v0_hasLists_3)) hP hD [0] [1, 2, 3, 4] rfl rfl (by decide) (by decide) hk1 hFc hP1 hD1
    have hP : va_P (dC, dI) vwCl (wd_Mo_drop cI cJ cG cZ a0 a0_from a0_to a0_near a0_lists a0_colours a0_shades a0_tints a0_attempt a0_taken a0_isApart a0_ways a0_next a0_splits a0_powers a0_row a0_many a0_can a0_could a0_arcRow a0_order a0_isOut 0 v0_nodes v0_arcs v0_takenMany v0_leftBits v0_hasPolynomial_2 v0_hasLists_3 w0_from w0_to w0_near w0_shades) H1 := hP.sub [4, 0, 1, 2, 3] rfl
    have hD : va_D A (wd_Mo_drop cI cJ cG cZ a0 a0_from a0_to a0_near a0_lists a0_colours a0_shades a0_tints a0_attempt a0_taken a0_isApart a0_ways a0_next a0_splits a0_powers a0_row a0_many a0_can a0_could a0_arcRow a0_order a0_isOut 0 v0_nodes v0_arcs v0_takenMany v0_leftBits v0_hasPolynomial_2 v0_hasLists_3 w0_from w0_to w0_near w0_shades) := hD.sub [4, 0, 1, 2, 3] (by decide) rfl
    clear hP1 hK1 hD1 hk1 hPc hDc hFc ht hvm hz1
    generalize H1 = H at hP hS ⊢
    refine lv_aload_n hx hb d_Mo_drop_18 rfl (lv_at hl 0 rfl) ?_
    refine lv_dup hx hb d_Mo_drop_19 rfl ?_
    refine va_get (D := (dC, dI)) (ci := 8) (v := .int v0_arcs) (C := R_Mo) (T := T_Mo) (N := 28) hx hb htt hin_Mo hown hK hP 0 rfl rfl 2 (by decide) (htt _ kt_771) (fun _ h9 => h9) rfl d_Mo_drop_20 ?_
    refine lv_iconst (v := 1) hx hb d_Mo_drop_23 (by decide) ?_
    refine lv_isub hx hb d_Mo_drop_24 ?_
    refine lv_topi (fun f_6 ef_6 => ?_)
    have hm := gB_at ef_6 hm
    refine va_put (D := (dC, dI)) (ci := 8) (v := .int f_6) (ty := .int) (C := R_Mo) (T := T_Mo) (N := 28) hx hb htt hin_Mo ty_Mo tyok_Mo nm_Mo hown hK hP hD hS 0 rfl rfl 2 (by decide) (htt _ kt_771) (fun _ h9 => h9) rfl (by decide +kernel) rfl rfl (Nat.le_of_ble_eq_true rfl) d_Mo_drop_25 (fun H locs hP hD hS => ?_)
    have hP : va_P (dC, dI) vwCl (wd_Mo_drop cI cJ cG cZ a0 a0_from a0_to a0_near a0_lists a0_colours a0_shades a0_tints a0_attempt a0_taken a0_isApart a0_ways a0_next a0_splits a0_powers a0_row a0_many a0_can a0_could a0_arcRow a0_order a0_isOut 0 v0_nodes f_6 v0_takenMany v0_leftBits v0_hasPolynomial_2 v0_hasLists_3 w0_from w0_to w0_near w0_shades) H := hP
    have hD : va_D A (wd_Mo_drop cI cJ cG cZ a0 a0_from a0_to a0_near a0_lists a0_colours a0_shades a0_tints a0_attempt a0_taken a0_isApart a0_ways a0_next a0_splits a0_powers a0_row a0_many a0_can a0_could a0_arcRow a0_order a0_isOut 0 v0_nodes f_6 v0_takenMany v0_leftBits v0_hasPolynomial_2 v0_hasLists_3 w0_from w0_to w0_near w0_shades) := hD
    refine lv_aload_n hx hb d_Mo_drop_28 rfl (lv_at hl 0 rfl) ?_
    refine va_get (D := (dC, dI)) (ci := 8) (v := .ref a0_near) (C := R_Mo) (T := T_Mo) (N := 28) hx hb htt hin_Mo hown hK hP 0 rfl rfl 5 (by decide) (htt _ kt_774) (fun _ h9 => h9) rfl d_Mo_drop_29 ?_
    refine lv_aload_n hx hb d_Mo_drop_32 rfl (lv_at hl 0 rfl) ?_
    refine va_get (D := (dC, dI)) (ci := 8) (v := .ref a0_from) (C := R_Mo) (T := T_Mo) (N := 28) hx hb htt hin_Mo hown hK hP 0 rfl rfl 3 (by decide) (htt _ kt_772) (fun _ h9 => h9) rfl d_Mo_drop_33 ?_
    refine lv_aload_n hx hb d_Mo_drop_36 rfl (lv_at hl 0 rfl) ?_
    refine va_get (D := (dC, dI)) (ci := 8) (v := .int f_6) (C := R_Mo) (T := T_Mo) (N := 28) hx hb htt hin_Mo hown hK hP 0 rfl rfl 2 (by decide) (htt _ kt_771) (fun _ h9 => h9) rfl d_Mo_drop_37 ?_
    obtain ⟨hi_7, hm⟩ := gC_e hm
    refine va_iald hx hb hK hP 1 0 rfl rfl (inb_vp hi_7) d_Mo_drop_40 ?_
    refine lv_dup2_11 hx hb d_Mo_drop_41 rfl rfl ?_
    obtain ⟨hi_8, hm⟩ := gC_e hm
    refine va_iald hx hb hK hP 3 0 rfl rfl (inb_vp hi_8) d_Mo_drop_42 ?_
    refine lv_iconst (v := 1) hx hb d_Mo_drop_43 (by decide) ?_
    refine lv_aload_n hx hb d_Mo_drop_44 rfl (lv_at hl 0 rfl) ?_
    refine va_get (D := (dC, dI)) (ci := 8) (v := .ref a0_to) (C := R_Mo) (T := T_Mo) (N := 28) hx hb htt hin_Mo hown hK hP 0 rfl rfl 4 (by decide) (htt _ kt_773) (fun _ h9 => h9) rfl d_Mo_drop_45 ?_
    refine lv_aload_n hx hb d_Mo_drop_48 rfl (lv_at hl 0 rfl) ?_
    refine va_get (D := (dC, dI)) (ci := 8) (v := .int f_6) (C := R_Mo) (T := T_Mo) (N := 28) hx hb htt hin_Mo hown hK hP 0 rfl rfl 2 (by decide) (htt _ kt_771) (fun _ h9 => h9) rfl d_Mo_drop_49 ?_
    obtain ⟨hi_9, hm⟩ := gC_e hm
    refine va_iald hx hb hK hP 2 0 rfl rfl (inb_vp hi_9) d_Mo_drop_52 ?_
    refine lv_ishl hx hb d_Mo_drop_53 ?_
    refine lv_iconst (v := (-1)) hx hb d_Mo_drop_54 (by decide) ?_
    refine lv_ixor hx hb d_Mo_drop_55 ?_
    refine lv_iand hx hb d_Mo_drop_56 ?_
    obtain ⟨hi_10, hm⟩ := gC_e hm
    refine va_iast hx hb hK hP hD hS 3 0 rfl rfl (inb_vp hi_10) d_Mo_drop_57 (fun H locs hP hD hS => ?_)
    have hP : va_P (dC, dI) vwCl (wd_Mo_drop cI cJ cG cZ a0 a0_from a0_to a0_near a0_lists a0_colours a0_shades a0_tints a0_attempt a0_taken a0_isApart a0_ways a0_next a0_splits a0_powers a0_row a0_many a0_can a0_could a0_arcRow a0_order a0_isOut 0 v0_nodes f_6 v0_takenMany v0_leftBits v0_hasPolynomial_2 v0_hasLists_3 w0_from w0_to (upd w0_near (w0_from f_6.toNatClampNeg).toNatClampNeg ((w0_near (w0_from f_6.toNatClampNeg).toNatClampNeg) &&& (((1 : Int32) <<< ((w0_to f_6.toNatClampNeg) &&& 31)) ^^^ (-1)))) w0_shades) H := hP
    have hD : va_D A (wd_Mo_drop cI cJ cG cZ a0 a0_from a0_to a0_near a0_lists a0_colours a0_shades a0_tints a0_attempt a0_taken a0_isApart a0_ways a0_next a0_splits a0_powers a0_row a0_many a0_can a0_could a0_arcRow a0_order a0_isOut 0 v0_nodes f_6 v0_takenMany v0_leftBits v0_hasPolynomial_2 v0_hasLists_3 w0_from w0_to (upd w0_near (w0_from f_6.toNatClampNeg).toNatClampNeg ((w0_near (w0_from f_6.toNatClampNeg).toNatClampNeg) &&& (((1 : Int32) <<< ((w0_to f_6.toNatClampNeg) &&& 31)) ^^^ (-1)))) w0_shades) := hD
    refine lv_aload_n hx hb d_Mo_drop_58 rfl (lv_at hl 0 rfl) ?_
    refine va_get (D := (dC, dI)) (ci := 8) (v := .ref a0_near) (C := R_Mo) (T := T_Mo) (N := 28) hx hb htt hin_Mo hown hK hP 0 rfl rfl 5 (by decide) (htt _ kt_774) (fun _ h9 => h9) rfl d_Mo_drop_59 ?_
    refine lv_aload_n hx hb d_Mo_drop_62 rfl (lv_at hl 0 rfl) ?_
    refine va_get (D := (dC, dI)) (ci := 8) (v := .ref a0_to) (C := R_Mo) (T := T_Mo) (N := 28) hx hb htt hin_Mo hown hK hP 0 rfl rfl 4 (by decide) (htt _ kt_773) (fun _ h9 => h9) rfl d_Mo_drop_63 ?_
    refine lv_aload_n hx hb d_Mo_drop_66 rfl (lv_at hl 0 rfl) ?_
    refine va_get (D := (dC, dI)) (ci := 8) (v := .int f_6) (C := R_Mo) (T := T_Mo) (N := 28) hx hb htt hin_Mo hown hK hP 0 rfl rfl 2 (by decide) (htt _ kt_771) (fun _ h9 => h9) rfl d_Mo_drop_67 ?_
    obtain ⟨hi_11, hm⟩ := gC_e hm
    refine va_iald hx hb hK hP 2 0 rfl rfl (inb_vp hi_11) d_Mo_drop_70 ?_
    refine lv_dup2_11 hx hb d_Mo_drop_71 rfl rfl ?_
    obtain ⟨hi_12, hm⟩ := gC_e hm
    refine va_iald hx hb hK hP 3 0 rfl rfl (inb_vp hi_12) d_Mo_drop_72 ?_
    refine lv_iconst (v := 1) hx hb d_Mo_drop_73 (by decide) ?_
    refine lv_aload_n hx hb d_Mo_drop_74 rfl (lv_at hl 0 rfl) ?_
    refine va_get (D := (dC, dI)) (ci := 8) (v := .ref a0_from) (C := R_Mo) (T := T_Mo) (N := 28) hx hb htt hin_Mo hown hK hP 0 rfl rfl 3 (by decide) (htt _ kt_772) (fun _ h9 => h9) rfl d_Mo_drop_75 ?_
    refine lv_aload_n hx hb d_Mo_drop_78 rfl (lv_at hl 0 rfl) ?_
    refine va_get (D := (dC, dI)) (ci := 8) (v := .int f_6) (C := R_Mo) (T := T_Mo) (N := 28) hx hb htt hin_Mo hown hK hP 0 rfl rfl 2 (by decide) (htt _ kt_771) (fun _ h9 => h9) rfl d_Mo_drop_79 ?_
    obtain ⟨hi_13, hm⟩ := gC_e hm
    refine va_iald hx hb hK hP 1 0 rfl rfl (inb_vp hi_13) d_Mo_drop_82 ?_
    refine lv_ishl hx hb d_Mo_drop_83 ?_
    refine lv_iconst (v := (-1)) hx hb d_Mo_drop_84 (by decide) ?_
    refine lv_ixor hx hb d_Mo_drop_85 ?_
    refine lv_iand hx hb d_Mo_drop_86 ?_
    obtain ⟨hi_14, hm⟩ := gC_e hm
    refine va_iast hx hb hK hP hD hS 3 0 rfl rfl (inb_vp hi_14) d_Mo_drop_87 (fun H locs hP hD hS => ?_)
    have hP : va_P (dC, dI) vwCl (wd_Mo_drop cI cJ cG cZ a0 a0_from a0_to a0_near a0_lists a0_colours a0_shades a0_tints a0_attempt a0_taken a0_isApart a0_ways a0_next a0_splits a0_powers a0_row a0_many a0_can a0_could a0_arcRow a0_order a0_isOut 0 v0_nodes f_6 v0_takenMany v0_leftBits v0_hasPolynomial_2 v0_hasLists_3 w0_from w0_to (upd (upd w0_near (w0_from f_6.toNatClampNeg).toNatClampNeg ((w0_near (w0_from f_6.toNatClampNeg).toNatClampNeg) &&& (((1 : Int32) <<< ((w0_to f_6.toNatClampNeg) &&& 31)) ^^^ (-1)))) (w0_to f_6.toNatClampNeg).toNatClampNeg (((upd w0_near (w0_from f_6.toNatClampNeg).toNatClampNeg ((w0_near (w0_from f_6.toNatClampNeg).toNatClampNeg) &&& (((1 : Int32) <<< ((w0_to f_6.toNatClampNeg) &&& 31)) ^^^ (-1)))) (w0_to f_6.toNatClampNeg).toNatClampNeg) &&& (((1 : Int32) <<< ((w0_from f_6.toNatClampNeg) &&& 31)) ^^^ (-1)))) w0_shades) H := hP
    have hD : va_D A (wd_Mo_drop cI cJ cG cZ a0 a0_from a0_to a0_near a0_lists a0_colours a0_shades a0_tints a0_attempt a0_taken a0_isApart a0_ways a0_next a0_splits a0_powers a0_row a0_many a0_can a0_could a0_arcRow a0_order a0_isOut 0 v0_nodes f_6 v0_takenMany v0_leftBits v0_hasPolynomial_2 v0_hasLists_3 w0_from w0_to (upd (upd w0_near (w0_from f_6.toNatClampNeg).toNatClampNeg ((w0_near (w0_from f_6.toNatClampNeg).toNatClampNeg) &&& (((1 : Int32) <<< ((w0_to f_6.toNatClampNeg) &&& 31)) ^^^ (-1)))) (w0_to f_6.toNatClampNeg).toNatClampNeg (((upd w0_near (w0_from f_6.toNatClampNeg).toNatClampNeg ((w0_near (w0_from f_6.toNatClampNeg).toNatClampNeg) &&& (((1 : Int32) <<< ((w0_to f_6.toNatClampNeg) &&& 31)) ^^^ (-1)))) (w0_to f_6.toNatClampNeg).toNatClampNeg) &&& (((1 : Int32) <<< ((w0_from f_6.toNatClampNeg) &&& 31)) ^^^ (-1)))) w0_shades) := hD
    refine lv_aload_n hx hb d_Mo_drop_88 rfl (lv_at hl 0 rfl) ?_
    refine va_get (D := (dC, dI)) (ci := 8) (v := .ref a0_shades) (C := R_Mo) (T := T_Mo) (N := 28) hx hb htt hin_Mo hown hK hP 0 rfl rfl 8 (by decide) (htt _ kt_777) (fun _ h9 => h9) rfl d_Mo_drop_89 ?_
    refine lv_aload_n hx hb d_Mo_drop_92 rfl (lv_at hl 0 rfl) ?_
    refine va_get (D := (dC, dI)) (ci := 8) (v := .int f_6) (C := R_Mo) (T := T_Mo) (N := 28) hx hb htt hin_Mo hown hK hP 0 rfl rfl 2 (by decide) (htt _ kt_771) (fun _ h9 => h9) rfl d_Mo_drop_93 ?_
    refine lv_iconst (v := (-1)) hx hb d_Mo_drop_96 (by decide) ?_
    obtain ⟨hi_15, hm⟩ := gC_e hm
    refine va_iast hx hb hK hP hD hS 4 0 rfl rfl (inb_vp hi_15) d_Mo_drop_97 (fun H locs hP hD hS => ?_)
    have hP : va_P (dC, dI) vwCl (wd_Mo_drop cI cJ cG cZ a0 a0_from a0_to a0_near a0_lists a0_colours a0_shades a0_tints a0_attempt a0_taken a0_isApart a0_ways a0_next a0_splits a0_powers a0_row a0_many a0_can a0_could a0_arcRow a0_order a0_isOut 0 v0_nodes f_6 v0_takenMany v0_leftBits v0_hasPolynomial_2 v0_hasLists_3 w0_from w0_to (upd (upd w0_near (w0_from f_6.toNatClampNeg).toNatClampNeg ((w0_near (w0_from f_6.toNatClampNeg).toNatClampNeg) &&& (((1 : Int32) <<< ((w0_to f_6.toNatClampNeg) &&& 31)) ^^^ (-1)))) (w0_to f_6.toNatClampNeg).toNatClampNeg (((upd w0_near (w0_from f_6.toNatClampNeg).toNatClampNeg ((w0_near (w0_from f_6.toNatClampNeg).toNatClampNeg) &&& (((1 : Int32) <<< ((w0_to f_6.toNatClampNeg) &&& 31)) ^^^ (-1)))) (w0_to f_6.toNatClampNeg).toNatClampNeg) &&& (((1 : Int32) <<< ((w0_from f_6.toNatClampNeg) &&& 31)) ^^^ (-1)))) (upd w0_shades f_6.toNatClampNeg (-1))) H := hP
    have hD : va_D A (wd_Mo_drop cI cJ cG cZ a0 a0_from a0_to a0_near a0_lists a0_colours a0_shades a0_tints a0_attempt a0_taken a0_isApart a0_ways a0_next a0_splits a0_powers a0_row a0_many a0_can a0_could a0_arcRow a0_order a0_isOut 0 v0_nodes f_6 v0_takenMany v0_leftBits v0_hasPolynomial_2 v0_hasLists_3 w0_from w0_to (upd (upd w0_near (w0_from f_6.toNatClampNeg).toNatClampNeg ((w0_near (w0_from f_6.toNatClampNeg).toNatClampNeg) &&& (((1 : Int32) <<< ((w0_to f_6.toNatClampNeg) &&& 31)) ^^^ (-1)))) (w0_to f_6.toNatClampNeg).toNatClampNeg (((upd w0_near (w0_from f_6.toNatClampNeg).toNatClampNeg ((w0_near (w0_from f_6.toNatClampNeg).toNatClampNeg) &&& (((1 : Int32) <<< ((w0_to f_6.toNatClampNeg) &&& 31)) ^^^ (-1)))) (w0_to f_6.toNatClampNeg).toNatClampNeg) &&& (((1 : Int32) <<< ((w0_from f_6.toNatClampNeg) &&& 31)) ^^^ (-1)))) (upd w0_shades f_6.toNatClampNeg (-1))) := hD
    refine lv_iconst (v := 1) hx hb d_Mo_drop_98 (by decide) ?_
    cases hm
    exact W.zret (ty := .boolean) hx hb hr (bz_nar (by decide : bz 1)) (fun t ht hW => ⟨⟨_, (), rfl, ⟨rfl, (by decide : bz 1)⟩, by rw [ht]; exact hP, va_K.moved hW.alike hK, hD⟩, hS.F ht⟩) hS.2.2 d_Mo_drop_99
  · have hm := ite_t c_1 hm
    refine lv_iconst (v := 0) hx hb d_Mo_drop_12 (by decide) ?_
    cases hm
    exact W.zret (ty := .boolean) hx hb hr (bz_nar (by decide : bz 0)) (fun t ht hW => ⟨⟨_, (), rfl, ⟨rfl, (by decide : bz 0)⟩, by rw [ht]; exact hP, va_K.moved hW.alike hK, hD⟩, hS.F ht⟩) hS.2.2 d_Mo_drop_13
theorem d_Mo_count_0 : decode prog_10_method_8_code 0 = .ok (.iconst 0, 1) := by decide +kernel
theorem d_Mo_count_1 : decode prog_10_method_8_code 1 = .ok (.istore_n 1, 1) := by decide +kernel
theorem d_Mo_count_2 : decode prog_10_method_8_code 2 = .ok (.iconst 0, 1) := by decide +kernel
theorem d_Mo_count_3 : decode prog_10_method_8_code 3 = .ok (.istore_n 2, 1) := by decide +kernel
theorem d_Mo_count_4 : decode prog_10_method_8_code 4 = .ok (.iload_n 2, 1) := by decide +kernel
theorem d_Mo_count_5 : decode prog_10_method_8_code 5 = .ok (.bipush 12, 2) := by decide +kernel
theorem d_Mo_count_7 : decode prog_10_method_8_code 7 = .ok (.if_icmp .ge 17, 3) := by decide +kernel
theorem d_Mo_count_10 : decode prog_10_method_8_code 10 = .ok (.iload_n 1, 1) := by decide +kernel
theorem d_Mo_count_11 : decode prog_10_method_8_code 11 = .ok (.iload_n 0, 1) := by decide +kernel
theorem d_Mo_count_12 : decode prog_10_method_8_code 12 = .ok (.iload_n 2, 1) := by decide +kernel
theorem d_Mo_count_13 : decode prog_10_method_8_code 13 = .ok (.ishr, 1) := by decide +kernel
theorem d_Mo_count_14 : decode prog_10_method_8_code 14 = .ok (.iconst 1, 1) := by decide +kernel
theorem d_Mo_count_15 : decode prog_10_method_8_code 15 = .ok (.iand, 1) := by decide +kernel
theorem d_Mo_count_16 : decode prog_10_method_8_code 16 = .ok (.iadd, 1) := by decide +kernel
theorem d_Mo_count_17 : decode prog_10_method_8_code 17 = .ok (.istore_n 1, 1) := by decide +kernel
theorem d_Mo_count_18 : decode prog_10_method_8_code 18 = .ok (.iinc 2 1, 3) := by decide +kernel
theorem d_Mo_count_21 : decode prog_10_method_8_code 21 = .ok (.goto (-17), 3) := by decide +kernel
theorem d_Mo_count_24 : decode prog_10_method_8_code 24 = .ok (.iload_n 1, 1) := by decide +kernel
theorem d_Mo_count_25 : decode prog_10_method_8_code 25 = .ok (.ireturn, 1) := by decide +kernel
abbrev wd_Mo_count (cI cJ cG cZ : ClassId) : va_W := []
abbrev us_Mo_count : List Cond := .code y_Mo_count prog_10_method_8_code 3 (some .int) :: gtbl
abbrev rm_Mo_count : Room := { frames := 0, cells := 0, slots := 0, locals := 0 }
def m_Mo_count (F : Nat) (p0 : Int32) : Option (Int32) :=
  gL (fun (k_4 : (Int32 × Int32) → Option (Int32)) (z_4 : Int32 × Int32) => match z_4 with
  | (x1_1, x2_2) =>
  if (12 : Int32) ≤ x2_2 then (
    some x1_1
  ) else (
    gB (x1_1 + ((p0 >>> (x2_2 &&& 31)) &&& 1)) (fun x1_4 =>
    gB (x2_2 + 1) (fun x2_5 =>
    k_4 (x1_4, x2_5)))
  )
  ) F (0, 0)
set_option maxHeartbeats 4000000 in
set_option maxRecDepth 100000 in
theorem c_Mo_count (l : Launch) (dC : Nat → ClassId) (dI : Nat → Nat → Nat) (cI cJ cG cZ : ClassId) (sz : Nat) (F : Nat) (p0 : Int32) (ret : Int32) (hm : m_Mo_count F p0 = some ret) : Met l y_Mo_count us_Mo_count rm_Mo_count (PcS (dC, dI) (tyL cI cJ cG cZ) [.int p0] sz (wd_Mo_count cI cJ cG cZ)) (va_Qi (fun (r : Int32) (_ : Unit) => ret = r) (fun _ t => PoS (dC, dI) (tyL cI cJ cG cZ) (wd_Mo_count cI cJ cG cZ) (va_A (wd_Mo_count cI cJ cG cZ) sz) t) (va_A (wd_Mo_count cI cJ cG cZ) sz)) 0 0 (va_A (wd_Mo_count cI cJ cG cZ) sz) := by
  refine Met.ofW (cc := prog_10_method_8_code) (maxL := 3) (ret := (some .int)) (by decide) rfl ?_
  intro p e s m args below meth c s₁ B hml hv
  obtain ⟨rfl, hsz, hP, hK, hD0, hNw⟩ := hv
  have hx := B.exec
  have hb := B.bytes
  have hr := B.returns
  have htt : ∀ w ∈ gtbl, w.before _ s = true := fun w h => atoms_spec (ws := us_Mo_count) B.pre w (List.mem_cons_of_mem _ h)
  have hown : s.vm.findClass R_Mo = some m.cls := findClass_of_methodNamed B.named
  have hlocks := B.notSynchronized
  subst hsz
  have hD := hD0.self (sz := s.heap.size)
  generalize hAe : va_A (wd_Mo_count cI cJ cG cZ) s.heap.size = A at hD ⊢
  have hA : ∀ q : Nat, s.heap.size ≤ q → A q := fun q h => by rw [← hAe]; exact Or.inr h
  clear hAe hD0
  have hS : va_S A s.heap s.heap [] := va_S.rf
  have hl := lv_entry ([.int p0]) (n := 3) (Nat.le_of_ble_eq_true rfl)
  rw [lg_entry_eq]
  generalize (lg_sl ([.int p0]) ++ List.replicate (3 - (lg_sl ([.int p0])).length) Slot.unset).toArray = ls at hl ⊢
  have hl : lv_has ls 3 [(0, .int p0)] := hl
  generalize hH : s.heap = H at hP ⊢
  have hS : va_S A s.heap H [] := hH ▸ hS
  generalize hLo : ([] : List Loc) = locs at hS ⊢
  clear hH hLo
  unfold m_Mo_count at hm
  refine lv_iconst (v := 0) hx hb d_Mo_count_0 (by decide) ?_
  refine lv_istore_n (lv' := [(1, .int 0), (0, .int p0)]) hx hb d_Mo_count_1 rfl hl (by decide) rfl (fun ls hl => ?_)
  refine lv_iconst (v := 0) hx hb d_Mo_count_2 (by decide) ?_
  refine lv_istore_n (lv' := [(2, .int 0), (1, .int 0), (0, .int p0)]) hx hb d_Mo_count_3 rfl hl (by decide) rfl (fun ls hl => ?_)
  refine gL_e (P := (fun (z_4 : Int32 × Int32) => ∀ (x1_1 : Int32), ∀ (x2_2 : Int32), z_4 = (x1_1, x2_2) → ∀ (ls : Array Slot) (H : Heap) (locs : List Loc), lv_has ls 3 [(0, .int p0), (1, .int x1_1), (2, .int x2_2)] → va_P (dC, dI) vwCl (wd_Mo_count cI cJ cG cZ) H → va_D A (wd_Mo_count cI cJ cG cZ) → va_S A s.heap H locs → W p l e (headSpec us_Mo_count rm_Mo_count).room s m ([.int p0] : List Value).toArray below meth c H locs 0 0 (MQ below (va_Qi (fun (r : Int32) (_ : Unit) => ret = r) (fun _ t => PoS (dC, dI) (tyL cI cJ cG cZ) (wd_Mo_count cI cJ cG cZ) A t) A) ([.int p0] : List Value).toArray s 0 0 A) (F0 m 4 ls []))) hm (fun k_4 z_4 ih_4 hm => ?_) _ _ rfl ls H locs (lv_sub hl [2, 1, 0] rfl) hP hD hS
  intro x1_1 x2_2 hz ls H locs hl hP hD hS
  subst hz
  dsimp only at hm
  refine lv_iload_n hx hb d_Mo_count_4 rfl (lv_at hl 2 rfl) ?_
  refine lv_bipush (v := 12) hx hb d_Mo_count_5 (by decide) ?_
  refine lv_icmp_ge (tgt := 24) hx hb d_Mo_count_7 (by decide) (fun c_3 => ?_) (fun c_3 => ?_)
  · have hm := ite_t c_3 hm
    refine lv_iload_n hx hb d_Mo_count_24 rfl (lv_at hl 1 rfl) ?_
    cases hm
    exact W.iret hx hb hr (fun t ht hW => ⟨⟨_, (), rfl, rfl, by rw [ht]; exact hP, va_K.moved hW.alike hK, hD⟩, hS.F ht⟩) hS.2.2 d_Mo_count_25
  · have hm := ite_f c_3 hm
    refine lv_iload_n hx hb d_Mo_count_10 rfl (lv_at hl 1 rfl) ?_
    refine lv_iload_n hx hb d_Mo_count_11 rfl (lv_at hl 0 rfl) ?_
    refine lv_iload_n hx hb d_Mo_count_12 rfl (lv_at hl 2 rfl) ?_
    refine lv_ishr hx hb d_Mo_count_13 ?_
    refine lv_iconst (v := 1) hx hb d_Mo_count_14 (by decide) ?_
    refine lv_iand hx hb d_Mo_count_15 ?_
    refine lv_iadd hx hb d_Mo_count_16 ?_
    refine lv_topi (fun x1_4 ex1_4 => ?_)
    have hm := gB_at ex1_4 hm
    refine lv_istore_n (lv' := [(1, .int x1_4), (0, .int p0), (2, .int x2_2)]) hx hb d_Mo_count_17 rfl hl (by decide) rfl (fun ls hl => ?_)
    obtain ⟨x2_5, ex2_5⟩ : ∃ y : Int32, y = x2_2 + 1 := ⟨_, rfl⟩
    have hm := gB_at ex2_5 hm
    refine lv_iinc (v := x2_5) (lv' := [(2, .int x2_5), (1, .int x1_4), (0, .int p0)]) hx hb d_Mo_count_18 hl (k := 2) rfl (by rw [ex2_5]; rfl) (by decide) rfl (fun ls hl => ?_)
    refine lv_goto (tgt := 4) hx hb d_Mo_count_21 (by decide) ?_
    exact ih_4 _ hm _ _ rfl ls H locs (lv_sub hl [2, 1, 0] rfl) hP hD hS
