theorem d_CS_taken_0 : decode prog_1_method_19_code 0 = .ok (.iload_n 1, 1) := by decide +kernel
theorem d_CS_taken_1 : decode prog_1_method_19_code 1 = .ok (.ifCond .lt 26, 3) := by decide +kernel
theorem d_CS_taken_4 : decode prog_1_method_19_code 4 = .ok (.iload_n 1, 1) := by decide +kernel
theorem d_CS_taken_5 : decode prog_1_method_19_code 5 = .ok (.aload_n 0, 1) := by decide +kernel
theorem d_CS_taken_6 : decode prog_1_method_19_code 6 = .ok (.getfield 47, 3) := by decide +kernel
theorem d_CS_taken_9 : decode prog_1_method_19_code 9 = .ok (.getfield 180, 3) := by decide +kernel
theorem d_CS_taken_12 : decode prog_1_method_19_code 12 = .ok (.if_icmp .ge 15, 3) := by decide +kernel
theorem d_CS_taken_15 : decode prog_1_method_19_code 15 = .ok (.aload_n 0, 1) := by decide +kernel
theorem d_CS_taken_16 : decode prog_1_method_19_code 16 = .ok (.getfield 47, 3) := by decide +kernel
theorem d_CS_taken_19 : decode prog_1_method_19_code 19 = .ok (.getfield 182, 3) := by decide +kernel
theorem d_CS_taken_22 : decode prog_1_method_19_code 22 = .ok (.iload_n 1, 1) := by decide +kernel
theorem d_CS_taken_23 : decode prog_1_method_19_code 23 = .ok (.iaload, 1) := by decide +kernel
theorem d_CS_taken_24 : decode prog_1_method_19_code 24 = .ok (.goto 4, 3) := by decide +kernel
theorem d_CS_taken_27 : decode prog_1_method_19_code 27 = .ok (.iconst (-1), 1) := by decide +kernel
theorem d_CS_taken_28 : decode prog_1_method_19_code 28 = .ok (.ireturn, 1) := by decide +kernel
abbrev wd_CS_taken (cI cJ cG cZ : ClassId) (a0 a0_net a0_painter a0_polynomial a0_listCounter a0_setFinder a0_takingApart a0_greedyRun a0_allowed a0_shown a0_shades a0_attempt a0_takingApart_sequence : Nat) (v0_takingApart_count : Int32) (v0_takingApart_remains : Int32) (w0_takingApart_sequence : Nat → Int32) : va_W := [(a0, .inr (0, [.ref a0_net, .ref a0_painter, .ref a0_polynomial, .ref a0_listCounter, .ref a0_setFinder, .ref a0_takingApart, .ref a0_greedyRun, .ref a0_allowed, .ref a0_shown, .ref a0_shades, .ref a0_attempt])), (a0_takingApart, .inr (6, [.ref a0_takingApart_sequence, .int v0_takingApart_count, .int v0_takingApart_remains])), (a0_takingApart_sequence, .inl (cI, 12, .inl w0_takingApart_sequence))]
abbrev us_CS_taken : List Cond := .code y_CS_taken prog_1_method_19_code 2 (some .int) :: gtbl
abbrev rm_CS_taken : Room := { frames := 0, cells := 0, slots := 0, locals := 0 }
def m_CS_taken (F : Nat) (v0_takingApart_count : Int32) (v0_takingApart_remains : Int32) (w0_takingApart_sequence : Nat → Int32) (p1 : Int32) : Option (Int32) :=
  if p1 < 0 then (
    some (-1)
  ) else (
    if v0_takingApart_count ≤ p1 then (
      some (-1)
    ) else (
      gC (inb p1 12) (
      some (w0_takingApart_sequence p1.toNatClampNeg))
    )
  )
set_option maxHeartbeats 4000000 in
set_option maxRecDepth 100000 in
theorem c_CS_taken (l : Launch) (dC : Nat → ClassId) (dI : Nat → Nat → Nat) (cI cJ cG cZ : ClassId) (a0 a0_net a0_painter a0_polynomial a0_listCounter a0_setFinder a0_takingApart a0_greedyRun a0_allowed a0_shown a0_shades a0_attempt a0_takingApart_sequence : Nat) (sz : Nat) (F : Nat) (v0_takingApart_count : Int32) (v0_takingApart_remains : Int32) (w0_takingApart_sequence : Nat → Int32) (p1 : Int32) (ret : Int32) (hm : m_CS_taken F v0_takingApart_count v0_takingApart_remains w0_takingApart_sequence p1 = some ret) : Met l y_CS_taken us_CS_taken rm_CS_taken (PcS (dC, dI) (tyL cI cJ cG cZ) [.ref a0, .int p1] sz (wd_CS_taken cI cJ cG cZ a0 a0_net a0_painter a0_polynomial a0_listCounter a0_setFinder a0_takingApart a0_greedyRun a0_allowed a0_shown a0_shades a0_attempt a0_takingApart_sequence v0_takingApart_count v0_takingApart_remains w0_takingApart_sequence)) (va_Qi (fun (r : Int32) (_ : Unit) => ret = r) (fun _ t => PoS (dC, dI) (tyL cI cJ cG cZ) (wd_CS_taken cI cJ cG cZ a0 a0_net a0_painter a0_polynomial a0_listCounter a0_setFinder a0_takingApart a0_greedyRun a0_allowed a0_shown a0_shades a0_attempt a0_takingApart_sequence v0_takingApart_count v0_takingApart_remains w0_takingApart_sequence) (va_A (wd_CS_taken cI cJ cG cZ a0 a0_net a0_painter a0_polynomial a0_listCounter a0_setFinder a0_takingApart a0_greedyRun a0_allowed a0_shown a0_shades a0_attempt a0_takingApart_sequence v0_takingApart_count v0_takingApart_remains w0_takingApart_sequence) sz) t) (va_A (wd_CS_taken cI cJ cG cZ a0 a0_net a0_painter a0_polynomial a0_listCounter a0_setFinder a0_takingApart a0_greedyRun a0_allowed a0_shown a0_shades a0_attempt a0_takingApart_sequence v0_takingApart_count v0_takingApart_remains w0_takingApart_sequence) sz)) 0 0 (va_A (wd_CS_taken cI cJ cG cZ a0 a0_net a0_painter a0_polynomial a0_listCounter a0_setFinder a0_takingApart a0_greedyRun a0_allowed a0_shown a0_shades a0_attempt a0_takingApart_sequence v0_takingApart_count v0_takingApart_remains w0_takingApart_sequence) sz) := by
  refine Met.ofW (cc := prog_1_method_19_code) (maxL := 2) (ret := (some .int)) (by decide) rfl ?_
  intro p e s m args below meth c s₁ B hml hv
  obtain ⟨rfl, hsz, hP, hK, hD0, hNw⟩ := hv
  have hx := B.exec
  have hb := B.bytes
  have hr := B.returns
  have htt : ∀ w ∈ gtbl, w.before _ s = true := fun w h => atoms_spec (ws := us_CS_taken) B.pre w (List.mem_cons_of_mem _ h)
  have hown : s.vm.findClass R_CS = some m.cls := findClass_of_methodNamed B.named
  have hlocks := B.notSynchronized
  subst hsz
  have hD := hD0.self (sz := s.heap.size)
  generalize hAe : va_A (wd_CS_taken cI cJ cG cZ a0 a0_net a0_painter a0_polynomial a0_listCounter a0_setFinder a0_takingApart a0_greedyRun a0_allowed a0_shown a0_shades a0_attempt a0_takingApart_sequence v0_takingApart_count v0_takingApart_remains w0_takingApart_sequence) s.heap.size = A at hD ⊢
  have hA : ∀ q : Nat, s.heap.size ≤ q → A q := fun q h => by rw [← hAe]; exact Or.inr h
  clear hAe hD0
  have hS : va_S A s.heap s.heap [] := va_S.rf
  have hl := lv_entry ([.ref a0, .int p1]) (n := 2) (Nat.le_of_ble_eq_true rfl)
  rw [lg_entry_eq]
  generalize (lg_sl ([.ref a0, .int p1]) ++ List.replicate (2 - (lg_sl ([.ref a0, .int p1])).length) Slot.unset).toArray = ls at hl ⊢
  have hl : lv_has ls 2 [(0, .ref a0), (1, .int p1)] := hl
  generalize hH : s.heap = H at hP ⊢
  have hS : va_S A s.heap H [] := hH ▸ hS
  generalize hLo : ([] : List Loc) = locs at hS ⊢
  clear hH hLo
  unfold m_CS_taken at hm
  refine lv_iload_n hx hb d_CS_taken_0 rfl (lv_at hl 1 rfl) ?_
  refine lv_if_lt (tgt := 27) hx hb d_CS_taken_1 (by decide) (fun c_1 => ?_) (fun c_1 => ?_)
  · have hm := ite_t c_1 hm
    refine lv_iconst (v := (-1)) hx hb d_CS_taken_27 (by decide) ?_
    cases hm
    exact W.iret hx hb hr (fun t ht hW => ⟨⟨_, (), rfl, rfl, by rw [ht]; exact hP, va_K.moved hW.alike hK, hD⟩, hS.F ht⟩) hS.2.2 d_CS_taken_28
  · have hm := ite_f c_1 hm
    refine lv_iload_n hx hb d_CS_taken_4 rfl (lv_at hl 1 rfl) ?_
    refine lv_aload_n hx hb d_CS_taken_5 rfl (lv_at hl 0 rfl) ?_
    refine va_get (D := (dC, dI)) (ci := 0) (v := .ref a0_takingApart) (C := R_CS) (T := T_CS) (N := 11) hx hb htt hin_CS hown hK hP 0 rfl rfl 5 (by decide) (htt _ kt_229) (fun _ h9 => h9) rfl d_CS_taken_6 ?_
    refine va_get (D := (dC, dI)) (ci := 6) (v := .int v0_takingApart_count) (C := R_TA) (T := T_TA) (N := 3) hx hb htt hin_TA hown hK hP 1 rfl rfl 1 (by decide) (htt _ kt_196) (fun _ h9 => h9) rfl d_CS_taken_9 ?_
    refine lv_icmp_ge (tgt := 27) hx hb d_CS_taken_12 (by decide) (fun c_2 => ?_) (fun c_2 => ?_)
    · have hm := ite_t c_2 hm
      refine lv_iconst (v := (-1)) hx hb d_CS_taken_27 (by decide) ?_
      cases hm
      exact W.iret hx hb hr (fun t ht hW => ⟨⟨_, (), rfl, rfl, by rw [ht]; exact hP, va_K.moved hW.alike hK, hD⟩, hS.F ht⟩) hS.2.2 d_CS_taken_28
    · have hm := ite_f c_2 hm
      refine lv_aload_n hx hb d_CS_taken_15 rfl (lv_at hl 0 rfl) ?_
      refine va_get (D := (dC, dI)) (ci := 0) (v := .ref a0_takingApart) (C := R_CS) (T := T_CS) (N := 11) hx hb htt hin_CS hown hK hP 0 rfl rfl 5 (by decide) (htt _ kt_229) (fun _ h9 => h9) rfl d_CS_taken_16 ?_
      refine va_get (D := (dC, dI)) (ci := 6) (v := .ref a0_takingApart_sequence) (C := R_TA) (T := T_TA) (N := 3) hx hb htt hin_TA hown hK hP 1 rfl rfl 0 (by decide) (htt _ kt_194) (fun _ h9 => h9) rfl d_CS_taken_19 ?_
      refine lv_iload_n hx hb d_CS_taken_22 rfl (lv_at hl 1 rfl) ?_
      obtain ⟨hi_3, hm⟩ := gC_e hm
      refine va_iald hx hb hK hP 2 0 rfl rfl (inb_vp hi_3) d_CS_taken_23 ?_
      refine lv_goto (tgt := 28) hx hb d_CS_taken_24 (by decide) ?_
      cases hm
      exact W.iret hx hb hr (fun t ht hW => ⟨⟨_, (), rfl, rfl, by rw [ht]; exact hP, va_K.moved hW.alike hK, hD⟩, hS.F ht⟩) hS.2.2 d_CS_taken_28
theorem d_CS_left_0 : decode prog_1_method_20_code 0 = .ok (.aload_n 0, 1) := by decide +kernel
theorem d_CS_left_1 : decode prog_1_method_20_code 1 = .ok (.getfield 47, 3) := by decide +kernel
theorem d_CS_left_4 : decode prog_1_method_20_code 4 = .ok (.getfield 177, 3) := by decide +kernel
theorem d_CS_left_7 : decode prog_1_method_20_code 7 = .ok (.ireturn, 1) := by decide +kernel
abbrev wd_CS_left (cI cJ cG cZ : ClassId) (a0 a0_net a0_painter a0_polynomial a0_listCounter a0_setFinder a0_takingApart a0_greedyRun a0_allowed a0_shown a0_shades a0_attempt a0_takingApart_sequence : Nat) (v0_takingApart_count : Int32) (v0_takingApart_remains : Int32) : va_W := [(a0, .inr (0, [.ref a0_net, .ref a0_painter, .ref a0_polynomial, .ref a0_listCounter, .ref a0_setFinder, .ref a0_takingApart, .ref a0_greedyRun, .ref a0_allowed, .ref a0_shown, .ref a0_shades, .ref a0_attempt])), (a0_takingApart, .inr (6, [.ref a0_takingApart_sequence, .int v0_takingApart_count, .int v0_takingApart_remains]))]
abbrev us_CS_left : List Cond := .code y_CS_left prog_1_method_20_code 1 (some .int) :: gtbl
abbrev rm_CS_left : Room := { frames := 0, cells := 0, slots := 0, locals := 0 }
def m_CS_left (F : Nat) (v0_takingApart_count : Int32) (v0_takingApart_remains : Int32) : Option (Int32) :=
  some v0_takingApart_remains
set_option maxHeartbeats 4000000 in
set_option maxRecDepth 100000 in
theorem c_CS_left (l : Launch) (dC : Nat → ClassId) (dI : Nat → Nat → Nat) (cI cJ cG cZ : ClassId) (a0 a0_net a0_painter a0_polynomial a0_listCounter a0_setFinder a0_takingApart a0_greedyRun a0_allowed a0_shown a0_shades a0_attempt a0_takingApart_sequence : Nat) (sz : Nat) (F : Nat) (v0_takingApart_count : Int32) (v0_takingApart_remains : Int32) (ret : Int32) (hm : m_CS_left F v0_takingApart_count v0_takingApart_remains = some ret) : Met l y_CS_left us_CS_left rm_CS_left (PcS (dC, dI) (tyL cI cJ cG cZ) [.ref a0] sz (wd_CS_left cI cJ cG cZ a0 a0_net a0_painter a0_polynomial a0_listCounter a0_setFinder a0_takingApart a0_greedyRun a0_allowed a0_shown a0_shades a0_attempt a0_takingApart_sequence v0_takingApart_count v0_takingApart_remains)) (va_Qi (fun (r : Int32) (_ : Unit) => ret = r) (fun _ t => PoS (dC, dI) (tyL cI cJ cG cZ) (wd_CS_left cI cJ cG cZ a0 a0_net a0_painter a0_polynomial a0_listCounter a0_setFinder a0_takingApart a0_greedyRun a0_allowed a0_shown a0_shades a0_attempt a0_takingApart_sequence v0_takingApart_count v0_takingApart_remains) (va_A (wd_CS_left cI cJ cG cZ a0 a0_net a0_painter a0_polynomial a0_listCounter a0_setFinder a0_takingApart a0_greedyRun a0_allowed a0_shown a0_shades a0_attempt a0_takingApart_sequence v0_takingApart_count v0_takingApart_remains) sz) t) (va_A (wd_CS_left cI cJ cG cZ a0 a0_net a0_painter a0_polynomial a0_listCounter a0_setFinder a0_takingApart a0_greedyRun a0_allowed a0_shown a0_shades a0_attempt a0_takingApart_sequence v0_takingApart_count v0_takingApart_remains) sz)) 0 0 (va_A (wd_CS_left cI cJ cG cZ a0 a0_net a0_painter a0_polynomial a0_listCounter a0_setFinder a0_takingApart a0_greedyRun a0_allowed a0_shown a0_shades a0_attempt a0_takingApart_sequence v0_takingApart_count v0_takingApart_remains) sz) := by
  refine Met.ofW (cc := prog_1_method_20_code) (maxL := 1) (ret := (some .int)) (by decide) rfl ?_
  intro p e s m args below meth c s₁ B hml hv
  obtain ⟨rfl, hsz, hP, hK, hD0, hNw⟩ := hv
  have hx := B.exec
  have hb := B.bytes
  have hr := B.returns
  have htt : ∀ w ∈ gtbl, w.before _ s = true := fun w h => atoms_spec (ws := us_CS_left) B.pre w (List.mem_cons_of_mem _ h)
  have hown : s.vm.findClass R_CS = some m.cls := findClass_of_methodNamed B.named
  have hlocks := B.notSynchronized
  subst hsz
  have hD := hD0.self (sz := s.heap.size)
  generalize hAe : va_A (wd_CS_left cI cJ cG cZ a0 a0_net a0_painter a0_polynomial a0_listCounter a0_setFinder a0_takingApart a0_greedyRun a0_allowed a0_shown a0_shades a0_attempt a0_takingApart_sequence v0_takingApart_count v0_takingApart_remains) s.heap.size = A at hD ⊢
  have hA : ∀ q : Nat, s.heap.size ≤ q → A q := fun q h => by rw [← hAe]; exact Or.inr h
  clear hAe hD0
  have hS : va_S A s.heap s.heap [] := va_S.rf
  have hl := lv_entry ([.ref a0]) (n := 1) (Nat.le_of_ble_eq_true rfl)
  rw [lg_entry_eq]
  generalize (lg_sl ([.ref a0]) ++ List.replicate (1 - (lg_sl ([.ref a0])).length) Slot.unset).toArray = ls at hl ⊢
  have hl : lv_has ls 1 [(0, .ref a0)] := hl
  generalize hH : s.heap = H at hP ⊢
  have hS : va_S A s.heap H [] := hH ▸ hS
  generalize hLo : ([] : List Loc) = locs at hS ⊢
  clear hH hLo
  unfold m_CS_left at hm
  refine lv_aload_n hx hb d_CS_left_0 rfl (lv_at hl 0 rfl) ?_
  refine va_get (D := (dC, dI)) (ci := 0) (v := .ref a0_takingApart) (C := R_CS) (T := T_CS) (N := 11) hx hb htt hin_CS hown hK hP 0 rfl rfl 5 (by decide) (htt _ kt_229) (fun _ h9 => h9) rfl d_CS_left_1 ?_
  refine va_get (D := (dC, dI)) (ci := 6) (v := .int v0_takingApart_remains) (C := R_TA) (T := T_TA) (N := 3) hx hb htt hin_TA hown hK hP 1 rfl rfl 2 (by decide) (htt _ kt_198) (fun _ h9 => h9) rfl d_CS_left_4 ?_
  cases hm
  exact W.iret hx hb hr (fun t ht hW => ⟨⟨_, (), rfl, rfl, by rw [ht]; exact hP, va_K.moved hW.alike hK, hD⟩, hS.F ht⟩) hS.2.2 d_CS_left_7
theorem d_CS_greedy_0 : decode prog_1_method_21_code 0 = .ok (.iload_n 1, 1) := by decide +kernel
theorem d_CS_greedy_1 : decode prog_1_method_21_code 1 = .ok (.ifCond .lt 23, 3) := by decide +kernel
theorem d_CS_greedy_4 : decode prog_1_method_21_code 4 = .ok (.iload_n 1, 1) := by decide +kernel
theorem d_CS_greedy_5 : decode prog_1_method_21_code 5 = .ok (.iconst 4, 1) := by decide +kernel
theorem d_CS_greedy_6 : decode prog_1_method_21_code 6 = .ok (.if_icmp .ge 18, 3) := by decide +kernel
theorem d_CS_greedy_9 : decode prog_1_method_21_code 9 = .ok (.aload_n 0, 1) := by decide +kernel
theorem d_CS_greedy_10 : decode prog_1_method_21_code 10 = .ok (.getfield 54, 3) := by decide +kernel
theorem d_CS_greedy_13 : decode prog_1_method_21_code 13 = .ok (.aload_n 0, 1) := by decide +kernel
theorem d_CS_greedy_14 : decode prog_1_method_21_code 14 = .ok (.getfield 12, 3) := by decide +kernel
theorem d_CS_greedy_17 : decode prog_1_method_21_code 17 = .ok (.iload_n 1, 1) := by decide +kernel
theorem d_CS_greedy_18 : decode prog_1_method_21_code 18 = .ok (.invokevirtual 185, 3) := by decide +kernel
theorem d_CS_greedy_21 : decode prog_1_method_21_code 21 = .ok (.goto 4, 3) := by decide +kernel
theorem d_CS_greedy_24 : decode prog_1_method_21_code 24 = .ok (.iconst (-1), 1) := by decide +kernel
theorem d_CS_greedy_25 : decode prog_1_method_21_code 25 = .ok (.ireturn, 1) := by decide +kernel
abbrev wd_CS_greedy (cI cJ cG cZ : ClassId) (a0 a0_net a0_painter a0_polynomial a0_listCounter a0_setFinder a0_takingApart a0_greedyRun a0_allowed a0_shown a0_shades a0_attempt a0_net_near a0_net_tail a0_net_head a0_greedyRun_tints a0_greedyRun_peeled : Nat) (v0_net_nodes : Int32) (v0_net_arcCount : Int32) (v0_net_version : Int32) (w0_net_near : Nat → Int32) (w0_greedyRun_tints : Nat → Int32) (w0_greedyRun_peeled : Nat → Int32) : va_W := [(a0, .inr (0, [.ref a0_net, .ref a0_painter, .ref a0_polynomial, .ref a0_listCounter, .ref a0_setFinder, .ref a0_takingApart, .ref a0_greedyRun, .ref a0_allowed, .ref a0_shown, .ref a0_shades, .ref a0_attempt])), (a0_net, .inr (1, [.ref a0_net_near, .ref a0_net_tail, .ref a0_net_head, .int v0_net_nodes, .int v0_net_arcCount, .int v0_net_version])), (a0_net_near, .inl (cI, 12, .inl w0_net_near)), (a0_greedyRun, .inr (7, [.ref a0_greedyRun_tints, .ref a0_greedyRun_peeled])), (a0_greedyRun_tints, .inl (cI, 12, .inl w0_greedyRun_tints)), (a0_greedyRun_peeled, .inl (cI, 12, .inl w0_greedyRun_peeled))]
abbrev us_CS_greedy : List Cond := .code y_CS_greedy prog_1_method_21_code 2 (some .int) :: gtbl
abbrev rm_CS_greedy : Room := { frames := 4, cells := 0, slots := 0, locals := 98 }
def m_CS_greedy (F : Nat) (v0_net_nodes : Int32) (v0_net_arcCount : Int32) (v0_net_version : Int32) (w0_net_near : Nat → Int32) (w0_greedyRun_tints : Nat → Int32) (w0_greedyRun_peeled : Nat → Int32) (p1 : Int32) : Option (Int32 × (Nat → Int32) × (Nat → Int32)) :=
  if p1 < 0 then (
    some ((-1), w0_greedyRun_tints, w0_greedyRun_peeled)
  ) else (
    if (4 : Int32) ≤ p1 then (
      some ((-1), w0_greedyRun_tints, w0_greedyRun_peeled)
    ) else (
      gM (m_Gr_run F w0_greedyRun_tints w0_greedyRun_peeled v0_net_nodes v0_net_arcCount v0_net_version w0_net_near p1) (fun (z_7 : Int32 × (Nat → Int32) × (Nat → Int32)) => match z_7 with
      | (q_3, w0_greedyRun_tints_4, w0_greedyRun_peeled_5) =>
      some (q_3, w0_greedyRun_tints_4, w0_greedyRun_peeled_5))
    )
  )
set_option maxHeartbeats 4000000 in
set_option maxRecDepth 100000 in
theorem c_CS_greedy (l : Launch) (dC : Nat → ClassId) (dI : Nat → Nat → Nat) (cI cJ cG cZ : ClassId) (a0 a0_net a0_painter a0_polynomial a0_listCounter a0_setFinder a0_takingApart a0_greedyRun a0_allowed a0_shown a0_shades a0_attempt a0_net_near a0_net_tail a0_net_head a0_greedyRun_tints a0_greedyRun_peeled : Nat) (sz : Nat) (F : Nat) (v0_net_nodes : Int32) (v0_net_arcCount : Int32) (v0_net_version : Int32) (w0_net_near : Nat → Int32) (w0_greedyRun_tints : Nat → Int32) (w0_greedyRun_peeled : Nat → Int32) (p1 : Int32) (ret : Int32) (o_w0_greedyRun_tints : Nat → Int32) (o_w0_greedyRun_peeled : Nat → Int32) (hm : m_CS_greedy F v0_net_nodes v0_net_arcCount v0_net_version w0_net_near w0_greedyRun_tints w0_greedyRun_peeled p1 = some (ret, o_w0_greedyRun_tints, o_w0_greedyRun_peeled)) : Met l y_CS_greedy us_CS_greedy rm_CS_greedy (PcS (dC, dI) (tyL cI cJ cG cZ) [.ref a0, .int p1] sz (wd_CS_greedy cI cJ cG cZ a0 a0_net a0_painter a0_polynomial a0_listCounter a0_setFinder a0_takingApart a0_greedyRun a0_allowed a0_shown a0_shades a0_attempt a0_net_near a0_net_tail a0_net_head a0_greedyRun_tints a0_greedyRun_peeled v0_net_nodes v0_net_arcCount v0_net_version w0_net_near w0_greedyRun_tints w0_greedyRun_peeled)) (va_Qi (fun (r : Int32) (_ : Unit) => ret = r) (fun _ t => PoS (dC, dI) (tyL cI cJ cG cZ) (wd_CS_greedy cI cJ cG cZ a0 a0_net a0_painter a0_polynomial a0_listCounter a0_setFinder a0_takingApart a0_greedyRun a0_allowed a0_shown a0_shades a0_attempt a0_net_near a0_net_tail a0_net_head a0_greedyRun_tints a0_greedyRun_peeled v0_net_nodes v0_net_arcCount v0_net_version w0_net_near o_w0_greedyRun_tints o_w0_greedyRun_peeled) (va_A (wd_CS_greedy cI cJ cG cZ a0 a0_net a0_painter a0_polynomial a0_listCounter a0_setFinder a0_takingApart a0_greedyRun a0_allowed a0_shown a0_shades a0_attempt a0_net_near a0_net_tail a0_net_head a0_greedyRun_tints a0_greedyRun_peeled v0_net_nodes v0_net_arcCount v0_net_version w0_net_near w0_greedyRun_tints w0_greedyRun_peeled) sz) t) (va_A (wd_CS_greedy cI cJ cG cZ a0 a0_net a0_painter a0_polynomial a0_listCounter a0_setFinder a0_takingApart a0_greedyRun a0_allowed a0_shown a0_shades a0_attempt a0_net_near a0_net_tail a0_net_head a0_greedyRun_tints a0_greedyRun_peeled v0_net_nodes v0_net_arcCount v0_net_version w0_net_near w0_greedyRun_tints w0_greedyRun_peeled) sz)) 0 0 (va_A (wd_CS_greedy cI cJ cG cZ a0 a0_net a0_painter a0_polynomial a0_listCounter a0_setFinder a0_takingApart a0_greedyRun a0_allowed a0_shown a0_shades a0_attempt a0_net_near a0_net_tail a0_net_head a0_greedyRun_tints a0_greedyRun_peeled v0_net_nodes v0_net_arcCount v0_net_version w0_net_near w0_greedyRun_tints w0_greedyRun_peeled) sz) := by
  refine Met.ofW (cc := prog_1_method_21_code) (maxL := 2) (ret := (some .int)) (by decide) rfl ?_
  intro p e s m args below meth c s₁ B hml hv
  obtain ⟨rfl, hsz, hP, hK, hD0, hNw⟩ := hv
  have hx := B.exec
  have hb := B.bytes
  have hr := B.returns
  have htt : ∀ w ∈ gtbl, w.before _ s = true := fun w h => atoms_spec (ws := us_CS_greedy) B.pre w (List.mem_cons_of_mem _ h)
  have hown : s.vm.findClass R_CS = some m.cls := findClass_of_methodNamed B.named
  have hlocks := B.notSynchronized
  subst hsz
  have hD := hD0.self (sz := s.heap.size)
  generalize hAe : va_A (wd_CS_greedy cI cJ cG cZ a0 a0_net a0_painter a0_polynomial a0_listCounter a0_setFinder a0_takingApart a0_greedyRun a0_allowed a0_shown a0_shades a0_attempt a0_net_near a0_net_tail a0_net_head a0_greedyRun_tints a0_greedyRun_peeled v0_net_nodes v0_net_arcCount v0_net_version w0_net_near w0_greedyRun_tints w0_greedyRun_peeled) s.heap.size = A at hD ⊢
  have hA : ∀ q : Nat, s.heap.size ≤ q → A q := fun q h => by rw [← hAe]; exact Or.inr h
  clear hAe hD0
  have hS : va_S A s.heap s.heap [] := va_S.rf
  have hl := lv_entry ([.ref a0, .int p1]) (n := 2) (Nat.le_of_ble_eq_true rfl)
  rw [lg_entry_eq]
  generalize (lg_sl ([.ref a0, .int p1]) ++ List.replicate (2 - (lg_sl ([.ref a0, .int p1])).length) Slot.unset).toArray = ls at hl ⊢
  have hl : lv_has ls 2 [(0, .ref a0), (1, .int p1)] := hl
  generalize hH : s.heap = H at hP ⊢
  have hS : va_S A s.heap H [] := hH ▸ hS
  generalize hLo : ([] : List Loc) = locs at hS ⊢
  clear hH hLo
  unfold m_CS_greedy at hm
  refine lv_iload_n hx hb d_CS_greedy_0 rfl (lv_at hl 1 rfl) ?_
  refine lv_if_lt (tgt := 24) hx hb d_CS_greedy_1 (by decide) (fun c_1 => ?_) (fun c_1 => ?_)
  · have hm := ite_t c_1 hm
    refine lv_iconst (v := (-1)) hx hb d_CS_greedy_24 (by decide) ?_
    cases hm
    exact W.iret hx hb hr (fun t ht hW => ⟨⟨_, (), rfl, rfl, by rw [ht]; exact hP, va_K.moved hW.alike hK, hD⟩, hS.F ht⟩) hS.2.2 d_CS_greedy_25
  · have hm := ite_f c_1 hm
    refine lv_iload_n hx hb d_CS_greedy_4 rfl (lv_at hl 1 rfl) ?_
    refine lv_iconst (v := 4) hx hb d_CS_greedy_5 (by decide) ?_
    refine lv_icmp_ge (tgt := 24) hx hb d_CS_greedy_6 (by decide) (fun c_2 => ?_) (fun c_2 => ?_)
    · have hm := ite_t c_2 hm
      refine lv_iconst (v := (-1)) hx hb d_CS_greedy_24 (by decide) ?_
      cases hm
      exact W.iret hx hb hr (fun t ht hW => ⟨⟨_, (), rfl, rfl, by rw [ht]; exact hP, va_K.moved hW.alike hK, hD⟩, hS.F ht⟩) hS.2.2 d_CS_greedy_25
    · have hm := ite_f c_2 hm
      refine lv_aload_n hx hb d_CS_greedy_9 rfl (lv_at hl 0 rfl) ?_
      refine va_get (D := (dC, dI)) (ci := 0) (v := .ref a0_greedyRun) (C := R_CS) (T := T_CS) (N := 11) hx hb htt hin_CS hown hK hP 0 rfl rfl 6 (by decide) (htt _ kt_230) (fun _ h9 => h9) rfl d_CS_greedy_10 ?_
      refine lv_aload_n hx hb d_CS_greedy_13 rfl (lv_at hl 0 rfl) ?_
      refine va_get (D := (dC, dI)) (ci := 0) (v := .ref a0_net) (C := R_CS) (T := T_CS) (N := 11) hx hb htt hin_CS hown hK hP 0 rfl rfl 0 (by decide) (htt _ kt_224) (fun _ h9 => h9) rfl d_CS_greedy_14 ?_
      refine lv_iload_n hx hb d_CS_greedy_17 rfl (lv_at hl 1 rfl) ?_
      obtain ⟨⟨q_3, w0_greedyRun_tints_4, w0_greedyRun_peeled_5⟩, hc_6, hm⟩ := gM_e hm
      dsimp only at hm
      have hPc : va_P (dC, dI) vwCl (wd_Gr_run cI cJ cG cZ a0_greedyRun a0_net a0_greedyRun_tints a0_greedyRun_peeled a0_net_near a0_net_tail a0_net_head w0_greedyRun_tints w0_greedyRun_peeled v0_net_nodes v0_net_arcCount v0_net_version w0_net_near) H := hP.sub [3, 4, 5, 1, 2] rfl
      have hDc : va_D A (wd_Gr_run cI cJ cG cZ a0_greedyRun a0_net a0_greedyRun_tints a0_greedyRun_peeled a0_net_near a0_net_tail a0_net_head w0_greedyRun_tints w0_greedyRun_peeled v0_net_nodes v0_net_arcCount v0_net_version w0_net_near) := hD.sub [3, 4, 5, 1, 2] (by decide) rfl
      have hFc : ∀ q, va_A (wd_Gr_run cI cJ cG cZ a0_greedyRun a0_net a0_greedyRun_tints a0_greedyRun_peeled a0_net_near a0_net_tail a0_net_head w0_greedyRun_tints w0_greedyRun_peeled v0_net_nodes v0_net_arcCount v0_net_version w0_net_near) H.size q → A q := va_free hD hS hA [3, 4, 5, 1, 2] rfl
      refine va_calli (va_runV (As := [.ref a0_net, .int p1]) (rest := []) ⟨hx, hb, hml, hown, htt⟩ (c_Gr_run l dC dI cI cJ cG cZ a0_greedyRun a0_net a0_greedyRun_tints a0_greedyRun_peeled a0_net_near a0_net_tail a0_net_head H.size F w0_greedyRun_tints w0_greedyRun_peeled v0_net_nodes v0_net_arcCount v0_net_version w0_net_near p1 q_3 w0_greedyRun_tints_4 w0_greedyRun_peeled_5 hc_6) (cwV 2 htt (gdV kt_583 kt_584 kt_585 kt_8 kt_586) rfl rfl rfl (by decide +kernel) ⟨(Nat.le_of_ble_eq_true rfl), (Nat.le_of_ble_eq_true rfl)⟩) ⟨PcS_blind, va_recv hK hPc (ci := 7) (q0 := 0) rfl rfl, PcS_in hPc hK hDc hNw⟩ rfl rfl hl.1 rfl (lv_room (Nat.le_of_ble_eq_true rfl)) d_CS_greedy_18 ⟨Nat.zero_le _, Nat.zero_le _⟩) hS (fun q _ h => hFc q h) hFc (fun r_8 u t H1 locs ht hvm hw hB hz1 hk1 hS => ?_)
      obtain ⟨hP1, hK1, hD1⟩ := hB
      rw [ht] at hP1
      subst hw
      obtain ⟨hP, hD⟩ := va_join (wr := [(a0, .inr (0, [.ref a0_net, .ref a0_painter, .ref a0_polynomial, .ref a0_listCounter, .ref a0_setFinder, .ref a0_takingApart, .ref a0_greedyRun, .ref a0_allowed, .ref a0_shown, .ref a0_shades, .ref a0_attempt]))]) (w1 := (wd_Gr_run cI cJ cG cZ a0_greedyRun a0_net a0_greedyRun_tints a0_greedyRun_peeled a0_net_near a0_net_tail a0_net_head w0_greedyRun_tints_4 w0_greedyRun_peeled_5 v0_net_nodes v0_net_arcCount v0_net_version w0_net_near)) hP hD [3, 4, 5, 1, 2] [0] rfl rfl (by decide) (by decide) hk1 hFc hP1 hD1
      have hP : va_P (dC, dI) vwCl (wd_CS_greedy cI cJ cG cZ a0 a0_net a0_painter a0_polynomial a0_listCounter a0_setFinder a0_takingApart a0_greedyRun a0_allowed a0_shown a0_shades a0_attempt a0_net_near a0_net_tail a0_net_head a0_greedyRun_tints a0_greedyRun_peeled v0_net_nodes v0_net_arcCount v0_net_version w0_net_near w0_greedyRun_tints_4 w0_greedyRun_peeled_5) H1 := hP.sub [0, 4, 5, 1, 2, 3] rfl
      have hD : va_D A (wd_CS_greedy cI cJ cG cZ a0 a0_net a0_painter a0_polynomial a0_listCounter a0_setFinder a0_takingApart a0_greedyRun a0_allowed a0_shown a0_shades a0_attempt a0_net_near a0_net_tail a0_net_head a0_greedyRun_tints a0_greedyRun_peeled v0_net_nodes v0_net_arcCount v0_net_version w0_net_near w0_greedyRun_tints_4 w0_greedyRun_peeled_5) := hD.sub [0, 4, 5, 1, 2, 3] (by decide) rfl
      clear hP1 hK1 hD1 hk1 hPc hDc hFc ht hvm hz1
      generalize H1 = H at hP hS ⊢
      refine lv_goto (tgt := 25) hx hb d_CS_greedy_21 (by decide) ?_
      cases hm
      exact W.iret hx hb hr (fun t ht hW => ⟨⟨_, (), rfl, rfl, by rw [ht]; exact hP, va_K.moved hW.alike hK, hD⟩, hS.F ht⟩) hS.2.2 d_CS_greedy_25
theorem d_CS_tint_0 : decode prog_1_method_22_code 0 = .ok (.aload_n 0, 1) := by decide +kernel
theorem d_CS_tint_1 : decode prog_1_method_22_code 1 = .ok (.getfield 12, 3) := by decide +kernel
theorem d_CS_tint_4 : decode prog_1_method_22_code 4 = .ok (.iload_n 1, 1) := by decide +kernel
theorem d_CS_tint_5 : decode prog_1_method_22_code 5 = .ok (.invokevirtual 118, 3) := by decide +kernel
theorem d_CS_tint_8 : decode prog_1_method_22_code 8 = .ok (.ifCond .eq 15, 3) := by decide +kernel
theorem d_CS_tint_11 : decode prog_1_method_22_code 11 = .ok (.aload_n 0, 1) := by decide +kernel
theorem d_CS_tint_12 : decode prog_1_method_22_code 12 = .ok (.getfield 54, 3) := by decide +kernel
theorem d_CS_tint_15 : decode prog_1_method_22_code 15 = .ok (.getfield 188, 3) := by decide +kernel
theorem d_CS_tint_18 : decode prog_1_method_22_code 18 = .ok (.iload_n 1, 1) := by decide +kernel
theorem d_CS_tint_19 : decode prog_1_method_22_code 19 = .ok (.iaload, 1) := by decide +kernel
theorem d_CS_tint_20 : decode prog_1_method_22_code 20 = .ok (.goto 4, 3) := by decide +kernel
theorem d_CS_tint_23 : decode prog_1_method_22_code 23 = .ok (.iconst (-1), 1) := by decide +kernel
theorem d_CS_tint_24 : decode prog_1_method_22_code 24 = .ok (.ireturn, 1) := by decide +kernel
abbrev wd_CS_tint (cI cJ cG cZ : ClassId) (a0 a0_net a0_painter a0_polynomial a0_listCounter a0_setFinder a0_takingApart a0_greedyRun a0_allowed a0_shown a0_shades a0_attempt a0_net_near a0_net_tail a0_net_head a0_greedyRun_tints a0_greedyRun_peeled : Nat) (v0_net_nodes : Int32) (v0_net_arcCount : Int32) (v0_net_version : Int32) (w0_greedyRun_tints : Nat → Int32) : va_W := [(a0, .inr (0, [.ref a0_net, .ref a0_painter, .ref a0_polynomial, .ref a0_listCounter, .ref a0_setFinder, .ref a0_takingApart, .ref a0_greedyRun, .ref a0_allowed, .ref a0_shown, .ref a0_shades, .ref a0_attempt])), (a0_net, .inr (1, [.ref a0_net_near, .ref a0_net_tail, .ref a0_net_head, .int v0_net_nodes, .int v0_net_arcCount, .int v0_net_version])), (a0_greedyRun, .inr (7, [.ref a0_greedyRun_tints, .ref a0_greedyRun_peeled])), (a0_greedyRun_tints, .inl (cI, 12, .inl w0_greedyRun_tints))]
abbrev us_CS_tint : List Cond := .code y_CS_tint prog_1_method_22_code 2 (some .int) :: gtbl
abbrev rm_CS_tint : Room := { frames := 1, cells := 0, slots := 0, locals := 21 }
def m_CS_tint (F : Nat) (v0_net_nodes : Int32) (v0_net_arcCount : Int32) (v0_net_version : Int32) (w0_greedyRun_tints : Nat → Int32) (p1 : Int32) : Option (Int32) :=
  gM (m_Net_isNode F v0_net_nodes v0_net_arcCount v0_net_version p1) (fun q_1 =>
  if q_1 = 0 then (
    some (-1)
  ) else (
    gC (inb p1 12) (
    some (w0_greedyRun_tints p1.toNatClampNeg))
  ))
set_option maxHeartbeats 4000000 in
set_option maxRecDepth 100000 in
theorem c_CS_tint (l : Launch) (dC : Nat → ClassId) (dI : Nat → Nat → Nat) (cI cJ cG cZ : ClassId) (a0 a0_net a0_painter a0_polynomial a0_listCounter a0_setFinder a0_takingApart a0_greedyRun a0_allowed a0_shown a0_shades a0_attempt a0_net_near a0_net_tail a0_net_head a0_greedyRun_tints a0_greedyRun_peeled : Nat) (sz : Nat) (F : Nat) (v0_net_nodes : Int32) (v0_net_arcCount : Int32) (v0_net_version : Int32) (w0_greedyRun_tints : Nat → Int32) (p1 : Int32) (ret : Int32) (hm : m_CS_tint F v0_net_nodes v0_net_arcCount v0_net_version w0_greedyRun_tints p1 = some ret) : Met l y_CS_tint us_CS_tint rm_CS_tint (PcS (dC, dI) (tyL cI cJ cG cZ) [.ref a0, .int p1] sz (wd_CS_tint cI cJ cG cZ a0 a0_net a0_painter a0_polynomial a0_listCounter a0_setFinder a0_takingApart a0_greedyRun a0_allowed a0_shown a0_shades a0_attempt a0_net_near a0_net_tail a0_net_head a0_greedyRun_tints a0_greedyRun_peeled v0_net_nodes v0_net_arcCount v0_net_version w0_greedyRun_tints)) (va_Qi (fun (r : Int32) (_ : Unit) => ret = r) (fun _ t => PoS (dC, dI) (tyL cI cJ cG cZ) (wd_CS_tint cI cJ cG cZ a0 a0_net a0_painter a0_polynomial a0_listCounter a0_setFinder a0_takingApart a0_greedyRun a0_allowed a0_shown a0_shades a0_attempt a0_net_near a0_net_tail a0_net_head a0_greedyRun_tints a0_greedyRun_peeled v0_net_nodes v0_net_arcCount v0_net_version w0_greedyRun_tints) (va_A (wd_CS_tint cI cJ cG cZ a0 a0_net a0_painter a0_polynomial a0_listCounter a0_setFinder a0_takingApart a0_greedyRun a0_allowed a0_shown a0_shades a0_attempt a0_net_near a0_net_tail a0_net_head a0_greedyRun_tints a0_greedyRun_peeled v0_net_nodes v0_net_arcCount v0_net_version w0_greedyRun_tints) sz) t) (va_A (wd_CS_tint cI cJ cG cZ a0 a0_net a0_painter a0_polynomial a0_listCounter a0_setFinder a0_takingApart a0_greedyRun a0_allowed a0_shown a0_shades a0_attempt a0_net_near a0_net_tail a0_net_head a0_greedyRun_tints a0_greedyRun_peeled v0_net_nodes v0_net_arcCount v0_net_version w0_greedyRun_tints) sz)) 0 0 (va_A (wd_CS_tint cI cJ cG cZ a0 a0_net a0_painter a0_polynomial a0_listCounter a0_setFinder a0_takingApart a0_greedyRun a0_allowed a0_shown a0_shades a0_attempt a0_net_near a0_net_tail a0_net_head a0_greedyRun_tints a0_greedyRun_peeled v0_net_nodes v0_net_arcCount v0_net_version w0_greedyRun_tints) sz) := by
  refine Met.ofW (cc := prog_1_method_22_code) (maxL := 2) (ret := (some .int)) (by decide) rfl ?_
  intro p e s m args below meth c s₁ B hml hv
  obtain ⟨rfl, hsz, hP, hK, hD0, hNw⟩ := hv
  have hx := B.exec
  have hb := B.bytes
  have hr := B.returns
  have htt : ∀ w ∈ gtbl, w.before _ s = true := fun w h => atoms_spec (ws := us_CS_tint) B.pre w (List.mem_cons_of_mem _ h)
  have hown : s.vm.findClass R_CS = some m.cls := findClass_of_methodNamed B.named
  have hlocks := B.notSynchronized
  subst hsz
  have hD := hD0.self (sz := s.heap.size)
  generalize hAe : va_A (wd_CS_tint cI cJ cG cZ a0 a0_net a0_painter a0_polynomial a0_listCounter a0_setFinder a0_takingApart a0_greedyRun a0_allowed a0_shown a0_shades a0_attempt a0_net_near a0_net_tail a0_net_head a0_greedyRun_tints a0_greedyRun_peeled v0_net_nodes v0_net_arcCount v0_net_version w0_greedyRun_tints) s.heap.size = A at hD ⊢
  have hA : ∀ q : Nat, s.heap.size ≤ q → A q := fun q h => by rw [← hAe]; exact Or.inr h
  clear hAe hD0
  have hS : va_S A s.heap s.heap [] := va_S.rf
  have hl := lv_entry ([.ref a0, .int p1]) (n := 2) (Nat.le_of_ble_eq_true rfl)
  rw [lg_entry_eq]
  generalize (lg_sl ([.ref a0, .int p1]) ++ List.replicate (2 - (lg_sl ([.ref a0, .int p1])).length) Slot.unset).toArray = ls at hl ⊢
  have hl : lv_has ls 2 [(0, .ref a0), (1, .int p1)] := hl
  generalize hH : s.heap = H at hP ⊢
  have hS : va_S A s.heap H [] := hH ▸ hS
  generalize hLo : ([] : List Loc) = locs at hS ⊢
  clear hH hLo
  unfold m_CS_tint at hm
  refine lv_aload_n hx hb d_CS_tint_0 rfl (lv_at hl 0 rfl) ?_
  refine va_get (D := (dC, dI)) (ci := 0) (v := .ref a0_net) (C := R_CS) (T := T_CS) (N := 11) hx hb htt hin_CS hown hK hP 0 rfl rfl 0 (by decide) (htt _ kt_224) (fun _ h9 => h9) rfl d_CS_tint_1 ?_
  refine lv_iload_n hx hb d_CS_tint_4 rfl (lv_at hl 1 rfl) ?_
  obtain ⟨q_1, hc_2, hm⟩ := gM_e hm
  have hPc : va_P (dC, dI) vwCl (wd_Net_isNode cI cJ cG cZ a0_net a0_net_near a0_net_tail a0_net_head v0_net_nodes v0_net_arcCount v0_net_version) H := hP.sub [1] rfl
  have hDc : va_D A (wd_Net_isNode cI cJ cG cZ a0_net a0_net_near a0_net_tail a0_net_head v0_net_nodes v0_net_arcCount v0_net_version) := hD.sub [1] (by decide) rfl
  have hFc : ∀ q, va_A (wd_Net_isNode cI cJ cG cZ a0_net a0_net_near a0_net_tail a0_net_head v0_net_nodes v0_net_arcCount v0_net_version) H.size q → A q := va_free hD hS hA [1] rfl
  refine va_calli (va_runV (As := [.int p1]) (rest := []) ⟨hx, hb, hml, hown, htt⟩ (c_Net_isNode l dC dI cI cJ cG cZ a0_net a0_net_near a0_net_tail a0_net_head H.size F v0_net_nodes v0_net_arcCount v0_net_version p1 q_1 hc_2) (cwV 1 htt (gdV kt_382 kt_275 kt_276 kt_2 kt_277) rfl rfl rfl (by decide +kernel) ⟨(Nat.le_of_ble_eq_true rfl), (Nat.le_of_ble_eq_true rfl)⟩) ⟨PcS_blind, va_recv hK hPc (ci := 1) (q0 := 0) rfl rfl, PcS_in hPc hK hDc hNw⟩ rfl rfl hl.1 rfl (lv_room (Nat.le_of_ble_eq_true rfl)) d_CS_tint_5 ⟨Nat.zero_le _, Nat.zero_le _⟩) hS (fun q _ h => hFc q h) hFc (fun r_3 u t H1 locs ht hvm hw hB hz1 hk1 hS => ?_)
  obtain ⟨hP1, hK1, hD1⟩ := hB
  rw [ht] at hP1
  obtain ⟨hw, hz_4⟩ := hw
  subst hw
  obtain ⟨hP, hD⟩ := va_join (wr := [(a0, .inr (0, [.ref a0_net, .ref a0_painter, .ref a0_polynomial, .ref a0_listCounter, .ref a0_setFinder, .ref a0_takingApart, .ref a0_greedyRun, .ref a0_allowed, .ref a0_shown, .ref a0_shades, .ref a0_attempt])), (a0_greedyRun, .inr (7, [.ref a0_greedyRun_tints, .ref a0_greedyRun_peeled])), (a0_greedyRun_tints, .inl (cI, 12, .inl w0_greedyRun_tints))]) (w1 := (wd_Net_isNode cI cJ cG cZ a0_net a0_net_near a0_net_tail a0_net_head v0_net_nodes v0_net_arcCount v0_net_version)) hP hD [1] [0, 2, 3] rfl rfl (by decide) (by decide) hk1 hFc hP1 hD1
  have hP : va_P (dC, dI) vwCl (wd_CS_tint cI cJ cG cZ a0 a0_net a0_painter a0_polynomial a0_listCounter a0_setFinder a0_takingApart a0_greedyRun a0_allowed a0_shown a0_shades a0_attempt a0_net_near a0_net_tail a0_net_head a0_greedyRun_tints a0_greedyRun_peeled v0_net_nodes v0_net_arcCount v0_net_version w0_greedyRun_tints) H1 := hP.sub [0, 3, 1, 2] rfl
  have hD : va_D A (wd_CS_tint cI cJ cG cZ a0 a0_net a0_painter a0_polynomial a0_listCounter a0_setFinder a0_takingApart a0_greedyRun a0_allowed a0_shown a0_shades a0_attempt a0_net_near a0_net_tail a0_net_head a0_greedyRun_tints a0_greedyRun_peeled v0_net_nodes v0_net_arcCount v0_net_version w0_greedyRun_tints) := hD.sub [0, 3, 1, 2] (by decide) rfl
  clear hP1 hK1 hD1 hk1 hPc hDc hFc ht hvm hz1
  generalize H1 = H at hP hS ⊢
  refine lv_if_eq (tgt := 23) hx hb d_CS_tint_8 (by decide) (fun c_5 => ?_) (fun c_5 => ?_)
  · have hm := ite_t c_5 hm
    refine lv_iconst (v := (-1)) hx hb d_CS_tint_23 (by decide) ?_
    cases hm
    exact W.iret hx hb hr (fun t ht hW => ⟨⟨_, (), rfl, rfl, by rw [ht]; exact hP, va_K.moved hW.alike hK, hD⟩, hS.F ht⟩) hS.2.2 d_CS_tint_24
  · have hm := ite_f c_5 hm
    refine lv_aload_n hx hb d_CS_tint_11 rfl (lv_at hl 0 rfl) ?_
    refine va_get (D := (dC, dI)) (ci := 0) (v := .ref a0_greedyRun) (C := R_CS) (T := T_CS) (N := 11) hx hb htt hin_CS hown hK hP 0 rfl rfl 6 (by decide) (htt _ kt_230) (fun _ h9 => h9) rfl d_CS_tint_12 ?_
    refine va_get (D := (dC, dI)) (ci := 7) (v := .ref a0_greedyRun_tints) (C := R_Gr) (T := T_Gr) (N := 2) hx hb htt hin_Gr hown hK hP 2 rfl rfl 0 (by decide) (htt _ kt_216) (fun _ h9 => h9) rfl d_CS_tint_15 ?_
    refine lv_iload_n hx hb d_CS_tint_18 rfl (lv_at hl 1 rfl) ?_
    obtain ⟨hi_6, hm⟩ := gC_e hm
    refine va_iald hx hb hK hP 3 0 rfl rfl (inb_vp hi_6) d_CS_tint_19 ?_
    refine lv_goto (tgt := 24) hx hb d_CS_tint_20 (by decide) ?_
    cases hm
    exact W.iret hx hb hr (fun t ht hW => ⟨⟨_, (), rfl, rfl, by rw [ht]; exact hP, va_K.moved hW.alike hK, hD⟩, hS.F ht⟩) hS.2.2 d_CS_tint_24
theorem d_CS_isColour_0 : decode prog_1_method_29_code 0 = .ok (.iload_n 0, 1) := by decide +kernel
theorem d_CS_isColour_1 : decode prog_1_method_29_code 1 = .ok (.ifCond .lt 13, 3) := by decide +kernel
theorem d_CS_isColour_4 : decode prog_1_method_29_code 4 = .ok (.iload_n 0, 1) := by decide +kernel
theorem d_CS_isColour_5 : decode prog_1_method_29_code 5 = .ok (.bipush 12, 2) := by decide +kernel
theorem d_CS_isColour_7 : decode prog_1_method_29_code 7 = .ok (.if_icmp .ge 7, 3) := by decide +kernel
theorem d_CS_isColour_10 : decode prog_1_method_29_code 10 = .ok (.iconst 1, 1) := by decide +kernel
theorem d_CS_isColour_11 : decode prog_1_method_29_code 11 = .ok (.goto 4, 3) := by decide +kernel
theorem d_CS_isColour_14 : decode prog_1_method_29_code 14 = .ok (.iconst 0, 1) := by decide +kernel
theorem d_CS_isColour_15 : decode prog_1_method_29_code 15 = .ok (.ireturn, 1) := by decide +kernel
abbrev wd_CS_isColour (cI cJ cG cZ : ClassId) : va_W := []
abbrev us_CS_isColour : List Cond := .code y_CS_isColour prog_1_method_29_code 1 (some .boolean) :: gtbl
abbrev rm_CS_isColour : Room := { frames := 0, cells := 0, slots := 0, locals := 0 }
def m_CS_isColour (F : Nat) (p0 : Int32) : Option (Int32) :=
  if p0 < 0 then (
    some 0
  ) else (
    if (12 : Int32) ≤ p0 then (
      some 0
    ) else (
      some 1
    )
  )
set_option maxHeartbeats 4000000 in
set_option maxRecDepth 100000 in
theorem c_CS_isColour (l : Launch) (dC : Nat → ClassId) (dI : Nat → Nat → Nat) (cI cJ cG cZ : ClassId) (sz : Nat) (F : Nat) (p0 : Int32) (ret : Int32) (hm : m_CS_isColour F p0 = some ret) : Met l y_CS_isColour us_CS_isColour rm_CS_isColour (PcS (dC, dI) (tyL cI cJ cG cZ) [.int p0] sz (wd_CS_isColour cI cJ cG cZ)) (va_Qi (fun (r : Int32) (_ : Unit) => ret = r ∧ bz r) (fun _ t => PoS (dC, dI) (tyL cI cJ cG cZ) (wd_CS_isColour cI cJ cG cZ) (va_A (wd_CS_isColour cI cJ cG cZ) sz) t) (va_A (wd_CS_isColour cI cJ cG cZ) sz)) 0 0 (va_A (wd_CS_isColour cI cJ cG cZ) sz) := by
  refine Met.ofW (cc := prog_1_method_29_code) (maxL := 1) (ret := (some .boolean)) (by decide) rfl ?_
  intro p e s m args below meth c s₁ B hml hv
  obtain ⟨rfl, hsz, hP, hK, hD0, hNw⟩ := hv
  have hx := B.exec
  have hb := B.bytes
  have hr := B.returns
  have htt : ∀ w ∈ gtbl, w.before _ s = true := fun w h => atoms_spec (ws := us_CS_isColour) B.pre w (List.mem_cons_of_mem _ h)
  have hown : s.vm.findClass R_CS = some m.cls := findClass_of_methodNamed B.named
  have hlocks := B.notSynchronized
  subst hsz
  have hD := hD0.self (sz := s.heap.size)
  generalize hAe : va_A (wd_CS_isColour cI cJ cG cZ) s.heap.size = A at hD ⊢
  have hA : ∀ q : Nat, s.heap.size ≤ q → A q := fun q h => by rw [← hAe]; exact Or.inr h
  clear hAe hD0
  have hS : va_S A s.heap s.heap [] := va_S.rf
  have hl := lv_entry ([.int p0]) (n := 1) (Nat.le_of_ble_eq_true rfl)
  rw [lg_entry_eq]
  generalize (lg_sl ([.int p0]) ++ List.replicate (1 - (lg_sl ([.int p0])).length) Slot.unset).toArray = ls at hl ⊢
  have hl : lv_has ls 1 [(0, .int p0)] := hl
  generalize hH : s.heap = H at hP ⊢
  have hS : va_S A s.heap H [] := hH ▸ hS
  generalize hLo : ([] : List Loc) = locs at hS ⊢
  clear hH hLo
  unfold m_CS_isColour at hm
  refine lv_iload_n hx hb d_CS_isColour_0 rfl (lv_at hl 0 rfl) ?_
  refine lv_if_lt (tgt := 14) hx hb d_CS_isColour_1 (by decide) (fun c_1 => ?_) (fun c_1 => ?_)
  · have hm := ite_t c_1 hm
    refine lv_iconst (v := 0) hx hb d_CS_isColour_14 (by decide) ?_
    cases hm
    exact W.zret (ty := .boolean) hx hb hr (bz_nar (by decide : bz 0)) (fun t ht hW => ⟨⟨_, (), rfl, ⟨rfl, (by decide : bz 0)⟩, by rw [ht]; exact hP, va_K.moved hW.alike hK, hD⟩, hS.F ht⟩) hS.2.2 d_CS_isColour_15
  · have hm := ite_f c_1 hm
    refine lv_iload_n hx hb d_CS_isColour_4 rfl (lv_at hl 0 rfl) ?_
    refine lv_bipush (v := 12) hx hb d_CS_isColour_5 (by decide) ?_
    refine lv_icmp_ge (tgt := 14) hx hb d_CS_isColour_7 (by decide) (fun c_2 => ?_) (fun c_2 => ?_)
    · have hm := ite_t c_2 hm
      refine lv_iconst (v := 0) hx hb d_CS_isColour_14 (by decide) ?_
      cases hm
      exact W.zret (ty := .boolean) hx hb hr (bz_nar (by decide : bz 0)) (fun t ht hW => ⟨⟨_, (), rfl, ⟨rfl, (by decide : bz 0)⟩, by rw [ht]; exact hP, va_K.moved hW.alike hK, hD⟩, hS.F ht⟩) hS.2.2 d_CS_isColour_15
    · have hm := ite_f c_2 hm
      refine lv_iconst (v := 1) hx hb d_CS_isColour_10 (by decide) ?_
      refine lv_goto (tgt := 15) hx hb d_CS_isColour_11 (by decide) ?_
      cases hm
      exact W.zret (ty := .boolean) hx hb hr (bz_nar (by decide : bz 1)) (fun t ht hW => ⟨⟨_, (), rfl, ⟨rfl, (by decide : bz 1)⟩, by rw [ht]; exact hP, va_K.moved hW.alike hK, hD⟩, hS.F ht⟩) hS.2.2 d_CS_isColour_15
theorem d_CS_put_0 : decode prog_1_method_23_code 0 = .ok (.aload_n 0, 1) := by decide +kernel
theorem d_CS_put_1 : decode prog_1_method_23_code 1 = .ok (.getfield 12, 3) := by decide +kernel
theorem d_CS_put_4 : decode prog_1_method_23_code 4 = .ok (.iload_n 1, 1) := by decide +kernel
theorem d_CS_put_5 : decode prog_1_method_23_code 5 = .ok (.invokevirtual 118, 3) := by decide +kernel
theorem d_CS_put_8 : decode prog_1_method_23_code 8 = .ok (.ifCond .eq 15, 3) := by decide +kernel
theorem d_CS_put_11 : decode prog_1_method_23_code 11 = .ok (.iload_n 2, 1) := by decide +kernel
theorem d_CS_put_12 : decode prog_1_method_23_code 12 = .ok (.iconst (-1), 1) := by decide +kernel
theorem d_CS_put_13 : decode prog_1_method_23_code 13 = .ok (.if_icmp .eq 12, 3) := by decide +kernel
theorem d_CS_put_16 : decode prog_1_method_23_code 16 = .ok (.iload_n 2, 1) := by decide +kernel
theorem d_CS_put_17 : decode prog_1_method_23_code 17 = .ok (.invokestatic 191, 3) := by decide +kernel
theorem d_CS_put_20 : decode prog_1_method_23_code 20 = .ok (.ifCond .ne 5, 3) := by decide +kernel
theorem d_CS_put_23 : decode prog_1_method_23_code 23 = .ok (.iconst 0, 1) := by decide +kernel
theorem d_CS_put_24 : decode prog_1_method_23_code 24 = .ok (.ireturn, 1) := by decide +kernel
theorem d_CS_put_25 : decode prog_1_method_23_code 25 = .ok (.aload_n 0, 1) := by decide +kernel
theorem d_CS_put_26 : decode prog_1_method_23_code 26 = .ok (.getfield 68, 3) := by decide +kernel
theorem d_CS_put_29 : decode prog_1_method_23_code 29 = .ok (.iload_n 1, 1) := by decide +kernel
theorem d_CS_put_30 : decode prog_1_method_23_code 30 = .ok (.iload_n 2, 1) := by decide +kernel
theorem d_CS_put_31 : decode prog_1_method_23_code 31 = .ok (.iastore, 1) := by decide +kernel
theorem d_CS_put_32 : decode prog_1_method_23_code 32 = .ok (.iconst 1, 1) := by decide +kernel
theorem d_CS_put_33 : decode prog_1_method_23_code 33 = .ok (.ireturn, 1) := by decide +kernel
abbrev wd_CS_put (cI cJ cG cZ : ClassId) (a0 a0_net a0_painter a0_polynomial a0_listCounter a0_setFinder a0_takingApart a0_greedyRun a0_allowed a0_shown a0_shades a0_attempt a0_net_near a0_net_tail a0_net_head : Nat) (v0_net_nodes : Int32) (v0_net_arcCount : Int32) (v0_net_version : Int32) (w0_attempt : Nat → Int32) : va_W := [(a0, .inr (0, [.ref a0_net, .ref a0_painter, .ref a0_polynomial, .ref a0_listCounter, .ref a0_setFinder, .ref a0_takingApart, .ref a0_greedyRun, .ref a0_allowed, .ref a0_shown, .ref a0_shades, .ref a0_attempt])), (a0_net, .inr (1, [.ref a0_net_near, .ref a0_net_tail, .ref a0_net_head, .int v0_net_nodes, .int v0_net_arcCount, .int v0_net_version])), (a0_attempt, .inl (cI, 12, .inl w0_attempt))]
abbrev us_CS_put : List Cond := .code y_CS_put prog_1_method_23_code 3 (some .boolean) :: gtbl
abbrev rm_CS_put : Room := { frames := 1, cells := 0, slots := 0, locals := 21 }
def m_CS_put (F : Nat) (v0_net_nodes : Int32) (v0_net_arcCount : Int32) (v0_net_version : Int32) (w0_attempt : Nat → Int32) (p1 : Int32) (p2 : Int32) : Option (Int32 × (Nat → Int32)) :=
  gM (m_Net_isNode F v0_net_nodes v0_net_arcCount v0_net_version p1) (fun q_1 =>
  if q_1 = 0 then (
    some (0, w0_attempt)
  ) else (
    gB (α := Option (Int32 × (Nat → Int32))) (
      gC (inb p1 12) (
      some (1, upd w0_attempt p1.toNatClampNeg p2))
    ) (fun J_25 =>
    if p2 = ((-1) : Int32) then (
      J_25
    ) else (
      gM (m_CS_isColour F p2) (fun q_8 =>
      if q_8 = 0 then (
        some (0, w0_attempt)
      ) else (
        J_25
      ))
    )
    )
  ))
set_option maxHeartbeats 4000000 in
set_option maxRecDepth 100000 in
theorem c_CS_put (l : Launch) (dC : Nat → ClassId) (dI : Nat → Nat → Nat) (cI cJ cG cZ : ClassId) (a0 a0_net a0_painter a0_polynomial a0_listCounter a0_setFinder a0_takingApart a0_greedyRun a0_allowed a0_shown a0_shades a0_attempt a0_net_near a0_net_tail a0_net_head : Nat) (sz : Nat) (F : Nat) (v0_net_nodes : Int32) (v0_net_arcCount : Int32) (v0_net_version : Int32) (w0_attempt : Nat → Int32) (p1 : Int32) (p2 : Int32) (ret : Int32) (o_w0_attempt : Nat → Int32) (hm : m_CS_put F v0_net_nodes v0_net_arcCount v0_net_version w0_attempt p1 p2 = some (ret, o_w0_attempt)) : Met l y_CS_put us_CS_put rm_CS_put (PcS (dC, dI) (tyL cI cJ cG cZ) [.ref a0, .int p1, .int p2] sz (wd_CS_put cI cJ cG cZ a0 a0_net a0_painter a0_polynomial a0_listCounter a0_setFinder a0_takingApart a0_greedyRun a0_allowed a0_shown a0_shades a0_attempt a0_net_near a0_net_tail a0_net_head v0_net_nodes v0_net_arcCount v0_net_version w0_attempt)) (va_Qi (fun (r : Int32) (_ : Unit) => ret = r ∧ bz r) (fun _ t => PoS (dC, dI) (tyL cI cJ cG cZ) (wd_CS_put cI cJ cG cZ a0 a0_net a0_painter a0_polynomial a0_listCounter a0_setFinder a0_takingApart a0_greedyRun a0_allowed a0_shown a0_shades a0_attempt a0_net_near a0_net_tail a0_net_head v0_net_nodes v0_net_arcCount v0_net_version o_w0_attempt) (va_A (wd_CS_put cI cJ cG cZ a0 a0_net a0_painter a0_polynomial a0_listCounter a0_setFinder a0_takingApart a0_greedyRun a0_allowed a0_shown a0_shades a0_attempt a0_net_near a0_net_tail a0_net_head v0_net_nodes v0_net_arcCount v0_net_version w0_attempt) sz) t) (va_A (wd_CS_put cI cJ cG cZ a0 a0_net a0_painter a0_polynomial a0_listCounter a0_setFinder a0_takingApart a0_greedyRun a0_allowed a0_shown a0_shades a0_attempt a0_net_near a0_net_tail a0_net_head v0_net_nodes v0_net_arcCount v0_net_version w0_attempt) sz)) 0 0 (va_A (wd_CS_put cI cJ cG cZ a0 a0_net a0_painter a0_polynomial a0_listCounter a0_setFinder a0_takingApart a0_greedyRun a0_allowed a0_shown a0_shades a0_attempt a0_net_near a0_net_tail a0_net_head v0_net_nodes v0_net_arcCount v0_net_version w0_attempt) sz) := by
  refine Met.ofW (cc := prog_1_method_23_code) (maxL := 3) (ret := (some .boolean)) (by decide) rfl ?_
  intro p e s m args below meth c s₁ B hml hv
  obtain ⟨rfl, hsz, hP, hK, hD0, hNw⟩ := hv
  have hx := B.exec
  have hb := B.bytes
  have hr := B.returns
  have htt : ∀ w ∈ gtbl, w.before _ s = true := fun w h => atoms_spec (ws := us_CS_put) B.pre w (List.mem_cons_of_mem _ h)
  have hown : s.vm.findClass R_CS = some m.cls := findClass_of_methodNamed B.named
  have hlocks := B.notSynchronized
  subst hsz
  have hD := hD0.self (sz := s.heap.size)
  generalize hAe : va_A (wd_CS_put cI cJ cG cZ a0 a0_net a0_painter a0_polynomial a0_listCounter a0_setFinder a0_takingApart a0_greedyRun a0_allowed a0_shown a0_shades a0_attempt a0_net_near a0_net_tail a0_net_head v0_net_nodes v0_net_arcCount v0_net_version w0_attempt) s.heap.size = A at hD ⊢
  have hA : ∀ q : Nat, s.heap.size ≤ q → A q := fun q h => by rw [← hAe]; exact Or.inr h
  clear hAe hD0
  have hS : va_S A s.heap s.heap [] := va_S.rf
  have hl := lv_entry ([.ref a0, .int p1, .int p2]) (n := 3) (Nat.le_of_ble_eq_true rfl)
  rw [lg_entry_eq]
  generalize (lg_sl ([.ref a0, .int p1, .int p2]) ++ List.replicate (3 - (lg_sl ([.ref a0, .int p1, .int p2])).length) Slot.unset).toArray = ls at hl ⊢
  have hl : lv_has ls 3 [(0, .ref a0), (1, .int p1), (2, .int p2)] := hl
  generalize hH : s.heap = H at hP ⊢
  have hS : va_S A s.heap H [] := hH ▸ hS
  generalize hLo : ([] : List Loc) = locs at hS ⊢
  clear hH hLo
  unfold m_CS_put at hm
  refine lv_aload_n hx hb d_CS_put_0 rfl (lv_at hl 0 rfl) ?_
  refine va_get (D := (dC, dI)) (ci := 0) (v := .ref a0_net) (C := R_CS) (T := T_CS) (N := 11) hx hb htt hin_CS hown hK hP 0 rfl rfl 0 (by decide) (htt _ kt_224) (fun _ h9 => h9) rfl d_CS_put_1 ?_
  refine lv_iload_n hx hb d_CS_put_4 rfl (lv_at hl 1 rfl) ?_
  obtain ⟨q_1, hc_2, hm⟩ := gM_e hm
  have hPc : va_P (dC, dI) vwCl (wd_Net_isNode cI cJ cG cZ a0_net a0_net_near a0_net_tail a0_net_head v0_net_nodes v0_net_arcCount v0_net_version) H := hP.sub [1] rfl
  have hDc : va_D A (wd_Net_isNode cI cJ cG cZ a0_net a0_net_near a0_net_tail a0_net_head v0_net_nodes v0_net_arcCount v0_net_version) := hD.sub [1] (by decide) rfl
  have hFc : ∀ q, va_A (wd_Net_isNode cI cJ cG cZ a0_net a0_net_near a0_net_tail a0_net_head v0_net_nodes v0_net_arcCount v0_net_version) H.size q → A q := va_free hD hS hA [1] rfl
  refine va_calli (va_runV (As := [.int p1]) (rest := []) ⟨hx, hb, hml, hown, htt⟩ (c_Net_isNode l dC dI cI cJ cG cZ a0_net a0_net_near a0_net_tail a0_net_head H.size F v0_net_nodes v0_net_arcCount v0_net_version p1 q_1 hc_2) (cwV 1 htt (gdV kt_382 kt_275 kt_276 kt_2 kt_277) rfl rfl rfl (by decide +kernel) ⟨(Nat.le_of_ble_eq_true rfl), (Nat.le_of_ble_eq_true rfl)⟩) ⟨PcS_blind, va_recv hK hPc (ci := 1) (q0 := 0) rfl rfl, PcS_in hPc hK hDc hNw⟩ rfl rfl hl.1 rfl (lv_room (Nat.le_of_ble_eq_true rfl)) d_CS_put_5 ⟨Nat.zero_le _, Nat.zero_le _⟩) hS (fun q _ h => hFc q h) hFc (fun r_3 u t H1 locs ht hvm hw hB hz1 hk1 hS => ?_)
  obtain ⟨hP1, hK1, hD1⟩ := hB
  rw [ht] at hP1
  obtain ⟨hw, hz_4⟩ := hw
  subst hw
  obtain ⟨hP, hD⟩ := va_join (wr := [(a0, .inr (0, [.ref a0_net, .ref a0_painter, .ref a0_polynomial, .ref a0_listCounter, .ref a0_setFinder, .ref a0_takingApart, .ref a0_greedyRun, .ref a0_allowed, .ref a0_shown, .ref a0_shades, .ref a0_attempt])), (a0_attempt, .inl (cI, 12, .inl w0_attempt))]) (w1 := (wd_Net_isNode cI cJ cG cZ a0_net a0_net_near a0_net_tail a0_net_head v0_net_nodes v0_net_arcCount v0_net_version)) hP hD [1] [0, 2] rfl rfl (by decide) (by decide) hk1 hFc hP1 hD1
  have hP : va_P (dC, dI) vwCl (wd_CS_put cI cJ cG cZ a0 a0_net a0_painter a0_polynomial a0_listCounter a0_setFinder a0_takingApart a0_greedyRun a0_allowed a0_shown a0_shades a0_attempt a0_net_near a0_net_tail a0_net_head v0_net_nodes v0_net_arcCount v0_net_version w0_attempt) H1 := hP.sub [0, 2, 1] rfl
  have hD : va_D A (wd_CS_put cI cJ cG cZ a0 a0_net a0_painter a0_polynomial a0_listCounter a0_setFinder a0_takingApart a0_greedyRun a0_allowed a0_shown a0_shades a0_attempt a0_net_near a0_net_tail a0_net_head v0_net_nodes v0_net_arcCount v0_net_version w0_attempt) := hD.sub [0, 2, 1] (by decide) rfl
  clear hP1 hK1 hD1 hk1 hPc hDc hFc ht hvm hz1
  generalize H1 = H at hP hS ⊢
  refine lv_if_eq (tgt := 23) hx hb d_CS_put_8 (by decide) (fun c_5 => ?_) (fun c_5 => ?_)
  · have hm := ite_t c_5 hm
    refine lv_iconst (v := 0) hx hb d_CS_put_23 (by decide) ?_
    cases hm
    exact W.zret (ty := .boolean) hx hb hr (bz_nar (by decide : bz 0)) (fun t ht hW => ⟨⟨_, (), rfl, ⟨rfl, (by decide : bz 0)⟩, by rw [ht]; exact hP, va_K.moved hW.alike hK, hD⟩, hS.F ht⟩) hS.2.2 d_CS_put_24
  · have hm := ite_f c_5 hm
    refine lv_iload_n hx hb d_CS_put_11 rfl (lv_at hl 2 rfl) ?_
    refine lv_iconst (v := (-1)) hx hb d_CS_put_12 (by decide) ?_
    obtain ⟨J_25, hJ_25, hm⟩ := gB_x hm
    have jp_25 : ∀ (ls : Array Slot) (H : Heap) (locs : List Loc), J_25 = some (ret, o_w0_attempt) → lv_has ls 3 [(0, .ref a0), (1, .int p1), (2, .int p2)] → va_P (dC, dI) vwCl (wd_CS_put cI cJ cG cZ a0 a0_net a0_painter a0_polynomial a0_listCounter a0_setFinder a0_takingApart a0_greedyRun a0_allowed a0_shown a0_shades a0_attempt a0_net_near a0_net_tail a0_net_head v0_net_nodes v0_net_arcCount v0_net_version w0_attempt) H → va_D A (wd_CS_put cI cJ cG cZ a0 a0_net a0_painter a0_polynomial a0_listCounter a0_setFinder a0_takingApart a0_greedyRun a0_allowed a0_shown a0_shades a0_attempt a0_net_near a0_net_tail a0_net_head v0_net_nodes v0_net_arcCount v0_net_version w0_attempt) → va_S A s.heap H locs → W p l e (headSpec us_CS_put rm_CS_put).room s m ([.ref a0, .int p1, .int p2] : List Value).toArray below meth c H locs 0 0 (MQ below (va_Qi (fun (r : Int32) (_ : Unit) => ret = r ∧ bz r) (fun _ t => PoS (dC, dI) (tyL cI cJ cG cZ) (wd_CS_put cI cJ cG cZ a0 a0_net a0_painter a0_polynomial a0_listCounter a0_setFinder a0_takingApart a0_greedyRun a0_allowed a0_shown a0_shades a0_attempt a0_net_near a0_net_tail a0_net_head v0_net_nodes v0_net_arcCount v0_net_version o_w0_attempt) A t) A) ([.ref a0, .int p1, .int p2] : List Value).toArray s 0 0 A) (F0 m 25 ls []) := by
      intro ls H locs hm hl hP hD hS
      have hm := jn0 hJ_25 hm
      refine lv_aload_n hx hb d_CS_put_25 rfl (lv_at hl 0 rfl) ?_
      refine va_get (D := (dC, dI)) (ci := 0) (v := .ref a0_attempt) (C := R_CS) (T := T_CS) (N := 11) hx hb htt hin_CS hown hK hP 0 rfl rfl 10 (by decide) (htt _ kt_234) (fun _ h9 => h9) rfl d_CS_put_26 ?_
      refine lv_iload_n hx hb d_CS_put_29 rfl (lv_at hl 1 rfl) ?_
      refine lv_iload_n hx hb d_CS_put_30 rfl (lv_at hl 2 rfl) ?_
      obtain ⟨hi_6, hm⟩ := gC_e hm
      refine va_iast hx hb hK hP hD hS 2 0 rfl rfl (inb_vp hi_6) d_CS_put_31 (fun H locs hP hD hS => ?_)
      have hP : va_P (dC, dI) vwCl (wd_CS_put cI cJ cG cZ a0 a0_net a0_painter a0_polynomial a0_listCounter a0_setFinder a0_takingApart a0_greedyRun a0_allowed a0_shown a0_shades a0_attempt a0_net_near a0_net_tail a0_net_head v0_net_nodes v0_net_arcCount v0_net_version (upd w0_attempt p1.toNatClampNeg p2)) H := hP
      have hD : va_D A (wd_CS_put cI cJ cG cZ a0 a0_net a0_painter a0_polynomial a0_listCounter a0_setFinder a0_takingApart a0_greedyRun a0_allowed a0_shown a0_shades a0_attempt a0_net_near a0_net_tail a0_net_head v0_net_nodes v0_net_arcCount v0_net_version (upd w0_attempt p1.toNatClampNeg p2)) := hD
      refine lv_iconst (v := 1) hx hb d_CS_put_32 (by decide) ?_
      cases hm
      exact W.zret (ty := .boolean) hx hb hr (bz_nar (by decide : bz 1)) (fun t ht hW => ⟨⟨_, (), rfl, ⟨rfl, (by decide : bz 1)⟩, by rw [ht]; exact hP, va_K.moved hW.alike hK, hD⟩, hS.F ht⟩) hS.2.2 d_CS_put_33
    clear hJ_25
    refine lv_icmp_eq (tgt := 25) hx hb d_CS_put_13 (by decide) (fun c_7 => ?_) (fun c_7 => ?_)
    · have hm := ite_t c_7 hm
      exact jp_25 ls H locs hm (lv_sub hl [0, 1, 2] rfl) hP hD hS
    · have hm := ite_f c_7 hm
      refine lv_iload_n hx hb d_CS_put_16 rfl (lv_at hl 2 rfl) ?_
      obtain ⟨q_8, hc_9, hm⟩ := gM_e hm
      have hPc : va_P (dC, dI) vwCl (wd_CS_isColour cI cJ cG cZ) H := hP.sub [] rfl
      have hDc : va_D A (wd_CS_isColour cI cJ cG cZ) := hD.sub [] (by decide) rfl
      have hFc : ∀ q, va_A (wd_CS_isColour cI cJ cG cZ) H.size q → A q := va_free hD hS hA [] rfl
      refine va_calli (va_runS (As := [.int p2]) (rest := []) ⟨hx, hb, hml, hown, htt⟩ (c_CS_isColour l dC dI cI cJ cG cZ H.size F p2 q_8 hc_9) (cwS 1 htt (gdS kt_614 kt_615 kt_1 kt_616) rfl rfl rfl (by decide +kernel) ⟨(Nat.le_of_ble_eq_true rfl), (Nat.le_of_ble_eq_true rfl)⟩) ⟨PcS_blind, PcS_in hPc hK hDc hNw⟩ rfl rfl hl.1 rfl (lv_room (Nat.le_of_ble_eq_true rfl)) d_CS_put_17 ⟨Nat.zero_le _, Nat.zero_le _⟩) hS (fun q _ h => hFc q h) hFc (fun r_10 u t H1 locs ht hvm hw hB hz1 hk1 hS => ?_)
      obtain ⟨hP1, hK1, hD1⟩ := hB
      rw [ht] at hP1
      obtain ⟨hw, hz_11⟩ := hw
      subst hw
      obtain ⟨hP, hD⟩ := va_join (wr := [(a0, .inr (0, [.ref a0_net, .ref a0_painter, .ref a0_polynomial, .ref a0_listCounter, .ref a0_setFinder, .ref a0_takingApart, .ref a0_greedyRun, .ref a0_allowed, .ref a0_shown, .ref a0_shades, .ref a0_attempt])), (a0_net, .inr (1, [.ref a0_net_near, .ref a0_net_tail, .ref a0_net_head, .int v0_net_nodes, .int v0_net_arcCount, .int v0_net_version])), (a0_attempt, .inl (cI, 12, .inl w0_attempt))]) (w1 := (wd_CS_isColour cI cJ cG cZ)) hP hD [] [0, 1, 2] rfl rfl (by decide) (by decide) hk1 hFc hP1 hD1
      have hP : va_P (dC, dI) vwCl (wd_CS_put cI cJ cG cZ a0 a0_net a0_painter a0_polynomial a0_listCounter a0_setFinder a0_takingApart a0_greedyRun a0_allowed a0_shown a0_shades a0_attempt a0_net_near a0_net_tail a0_net_head v0_net_nodes v0_net_arcCount v0_net_version w0_attempt) H1 := hP.sub [0, 1, 2] rfl
      have hD : va_D A (wd_CS_put cI cJ cG cZ a0 a0_net a0_painter a0_polynomial a0_listCounter a0_setFinder a0_takingApart a0_greedyRun a0_allowed a0_shown a0_shades a0_attempt a0_net_near a0_net_tail a0_net_head v0_net_nodes v0_net_arcCount v0_net_version w0_attempt) := hD.sub [0, 1, 2] (by decide) rfl
      clear hP1 hK1 hD1 hk1 hPc hDc hFc ht hvm hz1
      generalize H1 = H at hP hS ⊢
      refine lv_if_ne (tgt := 25) hx hb d_CS_put_20 (by decide) (fun c_12 => ?_) (fun c_12 => ?_)
      · have hm := ite_f c_12 hm
        exact jp_25 ls H locs hm (lv_sub hl [0, 1, 2] rfl) hP hD hS
      · have hm := ite_t c_12 hm
        refine lv_iconst (v := 0) hx hb d_CS_put_23 (by decide) ?_
        cases hm
        exact W.zret (ty := .boolean) hx hb hr (bz_nar (by decide : bz 0)) (fun t ht hW => ⟨⟨_, (), rfl, ⟨rfl, (by decide : bz 0)⟩, by rw [ht]; exact hP, va_K.moved hW.alike hK, hD⟩, hS.F ht⟩) hS.2.2 d_CS_put_24
theorem d_CS_tried_0 : decode prog_1_method_24_code 0 = .ok (.aload_n 0, 1) := by decide +kernel
theorem d_CS_tried_1 : decode prog_1_method_24_code 1 = .ok (.getfield 12, 3) := by decide +kernel
theorem d_CS_tried_4 : decode prog_1_method_24_code 4 = .ok (.iload_n 1, 1) := by decide +kernel
theorem d_CS_tried_5 : decode prog_1_method_24_code 5 = .ok (.invokevirtual 118, 3) := by decide +kernel
theorem d_CS_tried_8 : decode prog_1_method_24_code 8 = .ok (.ifCond .eq 12, 3) := by decide +kernel
theorem d_CS_tried_11 : decode prog_1_method_24_code 11 = .ok (.aload_n 0, 1) := by decide +kernel
theorem d_CS_tried_12 : decode prog_1_method_24_code 12 = .ok (.getfield 68, 3) := by decide +kernel
theorem d_CS_tried_15 : decode prog_1_method_24_code 15 = .ok (.iload_n 1, 1) := by decide +kernel
theorem d_CS_tried_16 : decode prog_1_method_24_code 16 = .ok (.iaload, 1) := by decide +kernel
theorem d_CS_tried_17 : decode prog_1_method_24_code 17 = .ok (.goto 4, 3) := by decide +kernel
theorem d_CS_tried_20 : decode prog_1_method_24_code 20 = .ok (.iconst (-1), 1) := by decide +kernel
theorem d_CS_tried_21 : decode prog_1_method_24_code 21 = .ok (.ireturn, 1) := by decide +kernel
abbrev wd_CS_tried (cI cJ cG cZ : ClassId) (a0 a0_net a0_painter a0_polynomial a0_listCounter a0_setFinder a0_takingApart a0_greedyRun a0_allowed a0_shown a0_shades a0_attempt a0_net_near a0_net_tail a0_net_head : Nat) (v0_net_nodes : Int32) (v0_net_arcCount : Int32) (v0_net_version : Int32) (w0_attempt : Nat → Int32) : va_W := [(a0, .inr (0, [.ref a0_net, .ref a0_painter, .ref a0_polynomial, .ref a0_listCounter, .ref a0_setFinder, .ref a0_takingApart, .ref a0_greedyRun, .ref a0_allowed, .ref a0_shown, .ref a0_shades, .ref a0_attempt])), (a0_net, .inr (1, [.ref a0_net_near, .ref a0_net_tail, .ref a0_net_head, .int v0_net_nodes, .int v0_net_arcCount, .int v0_net_version])), (a0_attempt, .inl (cI, 12, .inl w0_attempt))]
abbrev us_CS_tried : List Cond := .code y_CS_tried prog_1_method_24_code 2 (some .int) :: gtbl
abbrev rm_CS_tried : Room := { frames := 1, cells := 0, slots := 0, locals := 21 }
def m_CS_tried (F : Nat) (v0_net_nodes : Int32) (v0_net_arcCount : Int32) (v0_net_version : Int32) (w0_attempt : Nat → Int32) (p1 : Int32) : Option (Int32) :=
  gM (m_Net_isNode F v0_net_nodes v0_net_arcCount v0_net_version p1) (fun q_1 =>
  if q_1 = 0 then (
    some (-1)
  ) else (
    gC (inb p1 12) (
    some (w0_attempt p1.toNatClampNeg))
  ))
set_option maxHeartbeats 4000000 in
set_option maxRecDepth 100000 in
theorem c_CS_tried (l : Launch) (dC : Nat → ClassId) (dI : Nat → Nat → Nat) (cI cJ cG cZ : ClassId) (a0 a0_net a0_painter a0_polynomial a0_listCounter a0_setFinder a0_takingApart a0_greedyRun a0_allowed a0_shown a0_shades a0_attempt a0_net_near a0_net_tail a0_net_head : Nat) (sz : Nat) (F : Nat) (v0_net_nodes : Int32) (v0_net_arcCount : Int32) (v0_net_version : Int32) (w0_attempt : Nat → Int32) (p1 : Int32) (ret : Int32) (hm : m_CS_tried F v0_net_nodes v0_net_arcCount v0_net_version w0_attempt p1 = some ret) : Met l y_CS_tried us_CS_tried rm_CS_tried (PcS (dC, dI) (tyL cI cJ cG cZ) [.ref a0, .int p1] sz (wd_CS_tried cI cJ cG cZ a0 a0_net a0_painter a0_polynomial a0_listCounter a0_setFinder a0_takingApart a0_greedyRun a0_allowed a0_shown a0_shades a0_attempt a0_net_near a0_net_tail a0_net_head v0_net_nodes v0_net_arcCount v0_net_version w0_attempt)) (va_Qi (fun (r : Int32) (_ : Unit) => ret = r) (fun _ t => PoS (dC, dI) (tyL cI cJ cG cZ) (wd_CS_tried cI cJ cG cZ a0 a0_net a0_painter a0_polynomial a0_listCounter a0_setFinder a0_takingApart a0_greedyRun a0_allowed a0_shown a0_shades a0_attempt a0_net_near a0_net_tail a0_net_head v0_net_nodes v0_net_arcCount v0_net_version w0_attempt) (va_A (wd_CS_tried cI cJ cG cZ a0 a0_net a0_painter a0_polynomial a0_listCounter a0_setFinder a0_takingApart a0_greedyRun a0_allowed a0_shown a0_shades a0_attempt a0_net_near a0_net_tail a0_net_head v0_net_nodes v0_net_arcCount v0_net_version w0_attempt) sz) t) (va_A (wd_CS_tried cI cJ cG cZ a0 a0_net a0_painter a0_polynomial a0_listCounter a0_setFinder a0_takingApart a0_greedyRun a0_allowed a0_shown a0_shades a0_attempt a0_net_near a0_net_tail a0_net_head v0_net_nodes v0_net_arcCount v0_net_version w0_attempt) sz)) 0 0 (va_A (wd_CS_tried cI cJ cG cZ a0 a0_net a0_painter a0_polynomial a0_listCounter a0_setFinder a0_takingApart a0_greedyRun a0_allowed a0_shown a0_shades a0_attempt a0_net_near a0_net_tail a0_net_head v0_net_nodes v0_net_arcCount v0_net_version w0_attempt) sz) := by
  refine Met.ofW (cc := prog_1_method_24_code) (maxL := 2) (ret := (some .int)) (by decide) rfl ?_
  intro p e s m args below meth c s₁ B hml hv
  obtain ⟨rfl, hsz, hP, hK, hD0, hNw⟩ := hv
  have hx := B.exec
  have hb := B.bytes
  have hr := B.returns
  have htt : ∀ w ∈ gtbl, w.before _ s = true := fun w h => atoms_spec (ws := us_CS_tried) B.pre w (List.mem_cons_of_mem _ h)
  have hown : s.vm.findClass R_CS = some m.cls := findClass_of_methodNamed B.named
  have hlocks := B.notSynchronized
  subst hsz
  have hD := hD0.self (sz := s.heap.size)
  generalize hAe : va_A (wd_CS_tried cI cJ cG cZ a0 a0_net a0_painter a0_polynomial a0_listCounter a0_setFinder a0_takingApart a0_greedyRun a0_allowed a0_shown a0_shades a0_attempt a0_net_near a0_net_tail a0_net_head v0_net_nodes v0_net_arcCount v0_net_version w0_attempt) s.heap.size = A at hD ⊢
  have hA : ∀ q : Nat, s.heap.size ≤ q → A q := fun q h => by rw [← hAe]; exact Or.inr h
  clear hAe hD0
  have hS : va_S A s.heap s.heap [] := va_S.rf
  have hl := lv_entry ([.ref a0, .int p1]) (n := 2) (Nat.le_of_ble_eq_true rfl)
  rw [lg_entry_eq]
  generalize (lg_sl ([.ref a0, .int p1]) ++ List.replicate (2 - (lg_sl ([.ref a0, .int p1])).length) Slot.unset).toArray = ls at hl ⊢
  have hl : lv_has ls 2 [(0, .ref a0), (1, .int p1)] := hl
  generalize hH : s.heap = H at hP ⊢
  have hS : va_S A s.heap H [] := hH ▸ hS
  generalize hLo : ([] : List Loc) = locs at hS ⊢
  clear hH hLo
  unfold m_CS_tried at hm
  refine lv_aload_n hx hb d_CS_tried_0 rfl (lv_at hl 0 rfl) ?_
  refine va_get (D := (dC, dI)) (ci := 0) (v := .ref a0_net) (C := R_CS) (T := T_CS) (N := 11) hx hb htt hin_CS hown hK hP 0 rfl rfl 0 (by decide) (htt _ kt_224) (fun _ h9 => h9) rfl d_CS_tried_1 ?_
  refine lv_iload_n hx hb d_CS_tried_4 rfl (lv_at hl 1 rfl) ?_
  obtain ⟨q_1, hc_2, hm⟩ := gM_e hm
  have hPc : va_P (dC, dI) vwCl (wd_Net_isNode cI cJ cG cZ a0_net a0_net_near a0_net_tail a0_net_head v0_net_nodes v0_net_arcCount v0_net_version) H := hP.sub [1] rfl
  have hDc : va_D A (wd_Net_isNode cI cJ cG cZ a0_net a0_net_near a0_net_tail a0_net_head v0_net_nodes v0_net_arcCount v0_net_version) := hD.sub [1] (by decide) rfl
  have hFc : ∀ q, va_A (wd_Net_isNode cI cJ cG cZ a0_net a0_net_near a0_net_tail a0_net_head v0_net_nodes v0_net_arcCount v0_net_version) H.size q → A q := va_free hD hS hA [1] rfl
  refine va_calli (va_runV (As := [.int p1]) (rest := []) ⟨hx, hb, hml, hown, htt⟩ (c_Net_isNode l dC dI cI cJ cG cZ a0_net a0_net_near a0_net_tail a0_net_head H.size F v0_net_nodes v0_net_arcCount v0_net_version p1 q_1 hc_2) (cwV 1 htt (gdV kt_382 kt_275 kt_276 kt_2 kt_277) rfl rfl rfl (by decide +kernel) ⟨(Nat.le_of_ble_eq_true rfl), (Nat.le_of_ble_eq_true rfl)⟩) ⟨PcS_blind, va_recv hK hPc (ci := 1) (q0 := 0) rfl rfl, PcS_in hPc hK hDc hNw⟩ rfl rfl hl.1 rfl (lv_room (Nat.le_of_ble_eq_true rfl)) d_CS_tried_5 ⟨Nat.zero_le _, Nat.zero_le _⟩) hS (fun q _ h => hFc q h) hFc (fun r_3 u t H1 locs ht hvm hw hB hz1 hk1 hS => ?_)
  obtain ⟨hP1, hK1, hD1⟩ := hB
  rw [ht] at hP1
  obtain ⟨hw, hz_4⟩ := hw
  subst hw
  obtain ⟨hP, hD⟩ := va_join (wr := [(a0, .inr (0, [.ref a0_net, .ref a0_painter, .ref a0_polynomial, .ref a0_listCounter, .ref a0_setFinder, .ref a0_takingApart, .ref a0_greedyRun, .ref a0_allowed, .ref a0_shown, .ref a0_shades, .ref a0_attempt])), (a0_attempt, .inl (cI, 12, .inl w0_attempt))]) (w1 := (wd_Net_isNode cI cJ cG cZ a0_net a0_net_near a0_net_tail a0_net_head v0_net_nodes v0_net_arcCount v0_net_version)) hP hD [1] [0, 2] rfl rfl (by decide) (by decide) hk1 hFc hP1 hD1
  have hP : va_P (dC, dI) vwCl (wd_CS_tried cI cJ cG cZ a0 a0_net a0_painter a0_polynomial a0_listCounter a0_setFinder a0_takingApart a0_greedyRun a0_allowed a0_shown a0_shades a0_attempt a0_net_near a0_net_tail a0_net_head v0_net_nodes v0_net_arcCount v0_net_version w0_attempt) H1 := hP.sub [0, 2, 1] rfl
  have hD : va_D A (wd_CS_tried cI cJ cG cZ a0 a0_net a0_painter a0_polynomial a0_listCounter a0_setFinder a0_takingApart a0_greedyRun a0_allowed a0_shown a0_shades a0_attempt a0_net_near a0_net_tail a0_net_head v0_net_nodes v0_net_arcCount v0_net_version w0_attempt) := hD.sub [0, 2, 1] (by decide) rfl
  clear hP1 hK1 hD1 hk1 hPc hDc hFc ht hvm hz1
  generalize H1 = H at hP hS ⊢
  refine lv_if_eq (tgt := 20) hx hb d_CS_tried_8 (by decide) (fun c_5 => ?_) (fun c_5 => ?_)
  · have hm := ite_t c_5 hm
    refine lv_iconst (v := (-1)) hx hb d_CS_tried_20 (by decide) ?_
    cases hm
    exact W.iret hx hb hr (fun t ht hW => ⟨⟨_, (), rfl, rfl, by rw [ht]; exact hP, va_K.moved hW.alike hK, hD⟩, hS.F ht⟩) hS.2.2 d_CS_tried_21
  · have hm := ite_f c_5 hm
    refine lv_aload_n hx hb d_CS_tried_11 rfl (lv_at hl 0 rfl) ?_
    refine va_get (D := (dC, dI)) (ci := 0) (v := .ref a0_attempt) (C := R_CS) (T := T_CS) (N := 11) hx hb htt hin_CS hown hK hP 0 rfl rfl 10 (by decide) (htt _ kt_234) (fun _ h9 => h9) rfl d_CS_tried_12 ?_
    refine lv_iload_n hx hb d_CS_tried_15 rfl (lv_at hl 1 rfl) ?_
    obtain ⟨hi_6, hm⟩ := gC_e hm
    refine va_iald hx hb hK hP 2 0 rfl rfl (inb_vp hi_6) d_CS_tried_16 ?_
    refine lv_goto (tgt := 21) hx hb d_CS_tried_17 (by decide) ?_
    cases hm
    exact W.iret hx hb hr (fun t ht hW => ⟨⟨_, (), rfl, rfl, by rw [ht]; exact hP, va_K.moved hW.alike hK, hD⟩, hS.F ht⟩) hS.2.2 d_CS_tried_21
theorem d_CS_faults_0 : decode prog_1_method_25_code 0 = .ok (.iconst 0, 1) := by decide +kernel
theorem d_CS_faults_1 : decode prog_1_method_25_code 1 = .ok (.istore_n 1, 1) := by decide +kernel
theorem d_CS_faults_2 : decode prog_1_method_25_code 2 = .ok (.iconst 0, 1) := by decide +kernel
theorem d_CS_faults_3 : decode prog_1_method_25_code 3 = .ok (.istore_n 2, 1) := by decide +kernel
theorem d_CS_faults_4 : decode prog_1_method_25_code 4 = .ok (.iload_n 2, 1) := by decide +kernel
theorem d_CS_faults_5 : decode prog_1_method_25_code 5 = .ok (.aload_n 0, 1) := by decide +kernel
theorem d_CS_faults_6 : decode prog_1_method_25_code 6 = .ok (.getfield 12, 3) := by decide +kernel
theorem d_CS_faults_9 : decode prog_1_method_25_code 9 = .ok (.getfield 89, 3) := by decide +kernel
theorem d_CS_faults_12 : decode prog_1_method_25_code 12 = .ok (.if_icmp .ge 50, 3) := by decide +kernel
theorem d_CS_faults_15 : decode prog_1_method_25_code 15 = .ok (.aload_n 0, 1) := by decide +kernel
theorem d_CS_faults_16 : decode prog_1_method_25_code 16 = .ok (.getfield 68, 3) := by decide +kernel
theorem d_CS_faults_19 : decode prog_1_method_25_code 19 = .ok (.aload_n 0, 1) := by decide +kernel
theorem d_CS_faults_20 : decode prog_1_method_25_code 20 = .ok (.getfield 12, 3) := by decide +kernel
theorem d_CS_faults_23 : decode prog_1_method_25_code 23 = .ok (.getfield 194, 3) := by decide +kernel
theorem d_CS_faults_26 : decode prog_1_method_25_code 26 = .ok (.iload_n 2, 1) := by decide +kernel
theorem d_CS_faults_27 : decode prog_1_method_25_code 27 = .ok (.iaload, 1) := by decide +kernel
theorem d_CS_faults_28 : decode prog_1_method_25_code 28 = .ok (.iaload, 1) := by decide +kernel
theorem d_CS_faults_29 : decode prog_1_method_25_code 29 = .ok (.istore_n 3, 1) := by decide +kernel
theorem d_CS_faults_30 : decode prog_1_method_25_code 30 = .ok (.iload_n 3, 1) := by decide +kernel
theorem d_CS_faults_31 : decode prog_1_method_25_code 31 = .ok (.iconst (-1), 1) := by decide +kernel
theorem d_CS_faults_32 : decode prog_1_method_25_code 32 = .ok (.if_icmp .eq 24, 3) := by decide +kernel
theorem d_CS_faults_35 : decode prog_1_method_25_code 35 = .ok (.iload_n 3, 1) := by decide +kernel
theorem d_CS_faults_36 : decode prog_1_method_25_code 36 = .ok (.aload_n 0, 1) := by decide +kernel
theorem d_CS_faults_37 : decode prog_1_method_25_code 37 = .ok (.getfield 68, 3) := by decide +kernel
theorem d_CS_faults_40 : decode prog_1_method_25_code 40 = .ok (.aload_n 0, 1) := by decide +kernel
theorem d_CS_faults_41 : decode prog_1_method_25_code 41 = .ok (.getfield 12, 3) := by decide +kernel
theorem d_CS_faults_44 : decode prog_1_method_25_code 44 = .ok (.getfield 197, 3) := by decide +kernel
theorem d_CS_faults_47 : decode prog_1_method_25_code 47 = .ok (.iload_n 2, 1) := by decide +kernel
theorem d_CS_faults_48 : decode prog_1_method_25_code 48 = .ok (.iaload, 1) := by decide +kernel
theorem d_CS_faults_49 : decode prog_1_method_25_code 49 = .ok (.iaload, 1) := by decide +kernel
theorem d_CS_faults_50 : decode prog_1_method_25_code 50 = .ok (.if_icmp .ne 6, 3) := by decide +kernel
theorem d_CS_faults_53 : decode prog_1_method_25_code 53 = .ok (.iinc 1 1, 3) := by decide +kernel
theorem d_CS_faults_56 : decode prog_1_method_25_code 56 = .ok (.iinc 2 1, 3) := by decide +kernel
theorem d_CS_faults_59 : decode prog_1_method_25_code 59 = .ok (.goto (-55), 3) := by decide +kernel
theorem d_CS_faults_62 : decode prog_1_method_25_code 62 = .ok (.iload_n 1, 1) := by decide +kernel
theorem d_CS_faults_63 : decode prog_1_method_25_code 63 = .ok (.ireturn, 1) := by decide +kernel
abbrev wd_CS_faults (cI cJ cG cZ : ClassId) (a0 a0_net a0_painter a0_polynomial a0_listCounter a0_setFinder a0_takingApart a0_greedyRun a0_allowed a0_shown a0_shades a0_attempt a0_net_near a0_net_tail a0_net_head : Nat) (v0_net_nodes : Int32) (v0_net_arcCount : Int32) (v0_net_version : Int32) (w0_net_tail : Nat → Int32) (w0_net_head : Nat → Int32) (w0_attempt : Nat → Int32) : va_W := [(a0, .inr (0, [.ref a0_net, .ref a0_painter, .ref a0_polynomial, .ref a0_listCounter, .ref a0_setFinder, .ref a0_takingApart, .ref a0_greedyRun, .ref a0_allowed, .ref a0_shown, .ref a0_shades, .ref a0_attempt])), (a0_net, .inr (1, [.ref a0_net_near, .ref a0_net_tail, .ref a0_net_head, .int v0_net_nodes, .int v0_net_arcCount, .int v0_net_version])), (a0_net_tail, .inl (cI, 40, .inl w0_net_tail)), (a0_net_head, .inl (cI, 40, .inl w0_net_head)), (a0_attempt, .inl (cI, 12, .inl w0_attempt))]
abbrev us_CS_faults : List Cond := .code y_CS_faults prog_1_method_25_code 4 (some .int) :: gtbl
abbrev rm_CS_faults : Room := { frames := 0, cells := 0, slots := 0, locals := 0 }
def m_CS_faults (F : Nat) (v0_net_nodes : Int32) (v0_net_arcCount : Int32) (v0_net_version : Int32) (w0_net_tail : Nat → Int32) (w0_net_head : Nat → Int32) (w0_attempt : Nat → Int32) : Option (Int32) :=
  gL (fun (k_4 : (Int32 × Int32) → Option (Int32)) (z_4 : Int32 × Int32) => match z_4 with
  | (x1_1, x2_2) =>
  if v0_net_arcCount ≤ x2_2 then (
    some x1_1
  ) else (
    gC (inb x2_2 40) (
    gC (inb (w0_net_tail x2_2.toNatClampNeg) 12) (
    gB (w0_attempt (w0_net_tail x2_2.toNatClampNeg).toNatClampNeg) (fun x3_6 =>
    if x3_6 = ((-1) : Int32) then (
      gB (x2_2 + 1) (fun x2_8 =>
      k_4 (x1_1, x2_8))
    ) else (
      gC (inb x2_2 40) (
      gC (inb (w0_net_head x2_2.toNatClampNeg) 12) (
      if x3_6 = (w0_attempt (w0_net_head x2_2.toNatClampNeg).toNatClampNeg) then (
        gB (x1_1 + 1) (fun x1_13 =>
        gB (x2_2 + 1) (fun x2_14 =>
        k_4 (x1_13, x2_14)))
      ) else (
        gB (x2_2 + 1) (fun x2_12 =>
        k_4 (x1_1, x2_12))
      )))
    ))))
  )
  ) F (0, 0)
set_option maxHeartbeats 4000000 in
set_option maxRecDepth 100000 in
theorem c_CS_faults (l : Launch) (dC : Nat → ClassId) (dI : Nat → Nat → Nat) (cI cJ cG cZ : ClassId) (a0 a0_net a0_painter a0_polynomial a0_listCounter a0_setFinder a0_takingApart a0_greedyRun a0_allowed a0_shown a0_shades a0_attempt a0_net_near a0_net_tail a0_net_head : Nat) (sz : Nat) (F : Nat) (v0_net_nodes : Int32) (v0_net_arcCount : Int32) (v0_net_version : Int32) (w0_net_tail : Nat → Int32) (w0_net_head : Nat → Int32) (w0_attempt : Nat → Int32) (ret : Int32) (hm : m_CS_faults F v0_net_nodes v0_net_arcCount v0_net_version w0_net_tail w0_net_head w0_attempt = some ret) : Met l y_CS_faults us_CS_faults rm_CS_faults (PcS (dC, dI) (tyL cI cJ cG cZ) [.ref a0] sz (wd_CS_faults cI cJ cG cZ a0 a0_net a0_painter a0_polynomial a0_listCounter a0_setFinder a0_takingApart a0_greedyRun a0_allowed a0_shown a0_shades a0_attempt a0_net_near a0_net_tail a0_net_head v0_net_nodes v0_net_arcCount v0_net_version w0_net_tail w0_net_head w0_attempt)) (va_Qi (fun (r : Int32) (_ : Unit) => ret = r) (fun _ t => PoS (dC, dI) (tyL cI cJ cG cZ) (wd_CS_faults cI cJ cG cZ a0 a0_net a0_painter a0_polynomial a0_listCounter a0_setFinder a0_takingApart a0_greedyRun a0_allowed a0_shown a0_shades a0_attempt a0_net_near a0_net_tail a0_net_head v0_net_nodes v0_net_arcCount v0_net_version w0_net_tail w0_net_head w0_attempt) (va_A (wd_CS_faults cI cJ cG cZ a0 a0_net a0_painter a0_polynomial a0_listCounter a0_setFinder a0_takingApart a0_greedyRun a0_allowed a0_shown a0_shades a0_attempt a0_net_near a0_net_tail a0_net_head v0_net_nodes v0_net_arcCount v0_net_version w0_net_tail w0_net_head w0_attempt) sz) t) (va_A (wd_CS_faults cI cJ cG cZ a0 a0_net a0_painter a0_polynomial a0_listCounter a0_setFinder a0_takingApart a0_greedyRun a0_allowed a0_shown a0_shades a0_attempt a0_net_near a0_net_tail a0_net_head v0_net_nodes v0_net_arcCount v0_net_version w0_net_tail w0_net_head w0_attempt) sz)) 0 0 (va_A (wd_CS_faults cI cJ cG cZ a0 a0_net a0_painter a0_polynomial a0_listCounter a0_setFinder a0_takingApart a0_greedyRun a0_allowed a0_shown a0_shades a0_attempt a0_net_near a0_net_tail a0_net_head v0_net_nodes v0_net_arcCount v0_net_version w0_net_tail w0_net_head w0_attempt) sz) := by
  refine Met.ofW (cc := prog_1_method_25_code) (maxL := 4) (ret := (some .int)) (by decide) rfl ?_
  intro p e s m args below meth c s₁ B hml hv
  obtain ⟨rfl, hsz, hP, hK, hD0, hNw⟩ := hv
  have hx := B.exec
  have hb := B.bytes
  have hr := B.returns
  have htt : ∀ w ∈ gtbl, w.before _ s = true := fun w h => atoms_spec (ws := us_CS_faults) B.pre w (List.mem_cons_of_mem _ h)
  have hown : s.vm.findClass R_CS = some m.cls := findClass_of_methodNamed B.named
  have hlocks := B.notSynchronized
  subst hsz
  have hD := hD0.self (sz := s.heap.size)
  generalize hAe : va_A (wd_CS_faults cI cJ cG cZ a0 a0_net a0_painter a0_polynomial a0_listCounter a0_setFinder a0_takingApart a0_greedyRun a0_allowed a0_shown a0_shades a0_attempt a0_net_near a0_net_tail a0_net_head v0_net_nodes v0_net_arcCount v0_net_version w0_net_tail w0_net_head w0_attempt) s.heap.size = A at hD ⊢
  have hA : ∀ q : Nat, s.heap.size ≤ q → A q := fun q h => by rw [← hAe]; exact Or.inr h
  clear hAe hD0
  have hS : va_S A s.heap s.heap [] := va_S.rf
  have hl := lv_entry ([.ref a0]) (n := 4) (Nat.le_of_ble_eq_true rfl)
  rw [lg_entry_eq]
  generalize (lg_sl ([.ref a0]) ++ List.replicate (4 - (lg_sl ([.ref a0])).length) Slot.unset).toArray = ls at hl ⊢
  have hl : lv_has ls 4 [(0, .ref a0)] := hl
  generalize hH : s.heap = H at hP ⊢
  have hS : va_S A s.heap H [] := hH ▸ hS
  generalize hLo : ([] : List Loc) = locs at hS ⊢
  clear hH hLo
  unfold m_CS_faults at hm
  refine lv_iconst (v := 0) hx hb d_CS_faults_0 (by decide) ?_
  refine lv_istore_n (lv' := [(1, .int 0), (0, .ref a0)]) hx hb d_CS_faults_1 rfl hl (by decide) rfl (fun ls hl => ?_)
  refine lv_iconst (v := 0) hx hb d_CS_faults_2 (by decide) ?_
  refine lv_istore_n (lv' := [(2, .int 0), (1, .int 0), (0, .ref a0)]) hx hb d_CS_faults_3 rfl hl (by decide) rfl (fun ls hl => ?_)
  refine gL_e (P := (fun (z_4 : Int32 × Int32) => ∀ (x1_1 : Int32), ∀ (x2_2 : Int32), z_4 = (x1_1, x2_2) → ∀ (ls : Array Slot) (H : Heap) (locs : List Loc), lv_has ls 4 [(0, .ref a0), (1, .int x1_1), (2, .int x2_2)] → va_P (dC, dI) vwCl (wd_CS_faults cI cJ cG cZ a0 a0_net a0_painter a0_polynomial a0_listCounter a0_setFinder a0_takingApart a0_greedyRun a0_allowed a0_shown a0_shades a0_attempt a0_net_near a0_net_tail a0_net_head v0_net_nodes v0_net_arcCount v0_net_version w0_net_tail w0_net_head w0_attempt) H → va_D A (wd_CS_faults cI cJ cG cZ a0 a0_net a0_painter a0_polynomial a0_listCounter a0_setFinder a0_takingApart a0_greedyRun a0_allowed a0_shown a0_shades a0_attempt a0_net_near a0_net_tail a0_net_head v0_net_nodes v0_net_arcCount v0_net_version w0_net_tail w0_net_head w0_attempt) → va_S A s.heap H locs → W p l e (headSpec us_CS_faults rm_CS_faults).room s m ([.ref a0] : List Value).toArray below meth c H locs 0 0 (MQ below (va_Qi (fun (r : Int32) (_ : Unit) => ret = r) (fun _ t => PoS (dC, dI) (tyL cI cJ cG cZ) (wd_CS_faults cI cJ cG cZ a0 a0_net a0_painter a0_polynomial a0_listCounter a0_setFinder a0_takingApart a0_greedyRun a0_allowed a0_shown a0_shades a0_attempt a0_net_near a0_net_tail a0_net_head v0_net_nodes v0_net_arcCount v0_net_version w0_net_tail w0_net_head w0_attempt) A t) A) ([.ref a0] : List Value).toArray s 0 0 A) (F0 m 4 ls []))) hm (fun k_4 z_4 ih_4 hm => ?_) _ _ rfl ls H locs (lv_sub hl [2, 1, 0] rfl) hP hD hS
  intro x1_1 x2_2 hz ls H locs hl hP hD hS
  subst hz
  dsimp only at hm
  refine lv_iload_n hx hb d_CS_faults_4 rfl (lv_at hl 2 rfl) ?_
  refine lv_aload_n hx hb d_CS_faults_5 rfl (lv_at hl 0 rfl) ?_
  refine va_get (D := (dC, dI)) (ci := 0) (v := .ref a0_net) (C := R_CS) (T := T_CS) (N := 11) hx hb htt hin_CS hown hK hP 0 rfl rfl 0 (by decide) (htt _ kt_224) (fun _ h9 => h9) rfl d_CS_faults_6 ?_
  refine va_get (D := (dC, dI)) (ci := 1) (v := .int v0_net_arcCount) (C := R_Net) (T := T_Net) (N := 6) hx hb htt hin_Net hown hK hP 1 rfl rfl 4 (by decide) (htt _ kt_53) (fun _ h9 => h9) rfl d_CS_faults_9 ?_
  refine lv_icmp_ge (tgt := 62) hx hb d_CS_faults_12 (by decide) (fun c_3 => ?_) (fun c_3 => ?_)
  · have hm := ite_t c_3 hm
    refine lv_iload_n hx hb d_CS_faults_62 rfl (lv_at hl 1 rfl) ?_
    cases hm
    exact W.iret hx hb hr (fun t ht hW => ⟨⟨_, (), rfl, rfl, by rw [ht]; exact hP, va_K.moved hW.alike hK, hD⟩, hS.F ht⟩) hS.2.2 d_CS_faults_63
  · have hm := ite_f c_3 hm
    refine lv_aload_n hx hb d_CS_faults_15 rfl (lv_at hl 0 rfl) ?_
    refine va_get (D := (dC, dI)) (ci := 0) (v := .ref a0_attempt) (C := R_CS) (T := T_CS) (N := 11) hx hb htt hin_CS hown hK hP 0 rfl rfl 10 (by decide) (htt _ kt_234) (fun _ h9 => h9) rfl d_CS_faults_16 ?_
    refine lv_aload_n hx hb d_CS_faults_19 rfl (lv_at hl 0 rfl) ?_
    refine va_get (D := (dC, dI)) (ci := 0) (v := .ref a0_net) (C := R_CS) (T := T_CS) (N := 11) hx hb htt hin_CS hown hK hP 0 rfl rfl 0 (by decide) (htt _ kt_224) (fun _ h9 => h9) rfl d_CS_faults_20 ?_
    refine va_get (D := (dC, dI)) (ci := 1) (v := .ref a0_net_tail) (C := R_Net) (T := T_Net) (N := 6) hx hb htt hin_Net hown hK hP 1 rfl rfl 1 (by decide) (htt _ kt_41) (fun _ h9 => h9) rfl d_CS_faults_23 ?_
    refine lv_iload_n hx hb d_CS_faults_26 rfl (lv_at hl 2 rfl) ?_
    obtain ⟨hi_4, hm⟩ := gC_e hm
    refine va_iald hx hb hK hP 2 0 rfl rfl (inb_vp hi_4) d_CS_faults_27 ?_
    obtain ⟨hi_5, hm⟩ := gC_e hm
    refine va_iald hx hb hK hP 4 0 rfl rfl (inb_vp hi_5) d_CS_faults_28 ?_
    refine lv_topi (fun x3_6 ex3_6 => ?_)
    have hm := gB_at ex3_6 hm
    refine lv_istore_n (lv' := [(3, .int x3_6), (0, .ref a0), (1, .int x1_1), (2, .int x2_2)]) hx hb d_CS_faults_29 rfl hl (by decide) rfl (fun ls hl => ?_)
    refine lv_iload_n hx hb d_CS_faults_30 rfl (lv_at hl 0 rfl) ?_
    refine lv_iconst (v := (-1)) hx hb d_CS_faults_31 (by decide) ?_
    refine lv_icmp_eq (tgt := 56) hx hb d_CS_faults_32 (by decide) (fun c_7 => ?_) (fun c_7 => ?_)
    · have hm := ite_t c_7 hm
      obtain ⟨x2_8, ex2_8⟩ : ∃ y : Int32, y = x2_2 + 1 := ⟨_, rfl⟩
      have hm := gB_at ex2_8 hm
      refine lv_iinc (v := x2_8) (lv' := [(2, .int x2_8), (3, .int x3_6), (0, .ref a0), (1, .int x1_1)]) hx hb d_CS_faults_56 hl (k := 3) rfl (by rw [ex2_8]; rfl) (by decide) rfl (fun ls hl => ?_)
      refine lv_goto (tgt := 4) hx hb d_CS_faults_59 (by decide) ?_
      exact ih_4 _ hm _ _ rfl ls H locs (lv_sub hl [2, 3, 0] rfl) hP hD hS
    · have hm := ite_f c_7 hm
      refine lv_iload_n hx hb d_CS_faults_35 rfl (lv_at hl 0 rfl) ?_
      refine lv_aload_n hx hb d_CS_faults_36 rfl (lv_at hl 1 rfl) ?_
      refine va_get (D := (dC, dI)) (ci := 0) (v := .ref a0_attempt) (C := R_CS) (T := T_CS) (N := 11) hx hb htt hin_CS hown hK hP 0 rfl rfl 10 (by decide) (htt _ kt_234) (fun _ h9 => h9) rfl d_CS_faults_37 ?_
      refine lv_aload_n hx hb d_CS_faults_40 rfl (lv_at hl 1 rfl) ?_
      refine va_get (D := (dC, dI)) (ci := 0) (v := .ref a0_net) (C := R_CS) (T := T_CS) (N := 11) hx hb htt hin_CS hown hK hP 0 rfl rfl 0 (by decide) (htt _ kt_224) (fun _ h9 => h9) rfl d_CS_faults_41 ?_
      refine va_get (D := (dC, dI)) (ci := 1) (v := .ref a0_net_head) (C := R_Net) (T := T_Net) (N := 6) hx hb htt hin_Net hown hK hP 1 rfl rfl 2 (by decide) (htt _ kt_44) (fun _ h9 => h9) rfl d_CS_faults_44 ?_
      refine lv_iload_n hx hb d_CS_faults_47 rfl (lv_at hl 3 rfl) ?_
      obtain ⟨hi_9, hm⟩ := gC_e hm
      refine va_iald hx hb hK hP 3 0 rfl rfl (inb_vp hi_9) d_CS_faults_48 ?_
      obtain ⟨hi_10, hm⟩ := gC_e hm
      refine va_iald hx hb hK hP 4 0 rfl rfl (inb_vp hi_10) d_CS_faults_49 ?_
      refine lv_icmp_ne (tgt := 56) hx hb d_CS_faults_50 (by decide) (fun c_11 => ?_) (fun c_11 => ?_)
      · have hm := ite_f c_11 hm
        obtain ⟨x2_12, ex2_12⟩ : ∃ y : Int32, y = x2_2 + 1 := ⟨_, rfl⟩
        have hm := gB_at ex2_12 hm
        refine lv_iinc (v := x2_12) (lv' := [(2, .int x2_12), (3, .int x3_6), (0, .ref a0), (1, .int x1_1)]) hx hb d_CS_faults_56 hl (k := 3) rfl (by rw [ex2_12]; rfl) (by decide) rfl (fun ls hl => ?_)
        refine lv_goto (tgt := 4) hx hb d_CS_faults_59 (by decide) ?_
        exact ih_4 _ hm _ _ rfl ls H locs (lv_sub hl [2, 3, 0] rfl) hP hD hS
      · have hm := ite_t c_11 hm
        obtain ⟨x1_13, ex1_13⟩ : ∃ y : Int32, y = x1_1 + 1 := ⟨_, rfl⟩
        have hm := gB_at ex1_13 hm
        refine lv_iinc (v := x1_13) (lv' := [(1, .int x1_13), (3, .int x3_6), (0, .ref a0), (2, .int x2_2)]) hx hb d_CS_faults_53 hl (k := 2) rfl (by rw [ex1_13]; rfl) (by decide) rfl (fun ls hl => ?_)
        obtain ⟨x2_14, ex2_14⟩ : ∃ y : Int32, y = x2_2 + 1 := ⟨_, rfl⟩
        have hm := gB_at ex2_14 hm
        refine lv_iinc (v := x2_14) (lv' := [(2, .int x2_14), (1, .int x1_13), (3, .int x3_6), (0, .ref a0)]) hx hb d_CS_faults_56 hl (k := 3) rfl (by rw [ex2_14]; rfl) (by decide) rfl (fun ls hl => ?_)
        refine lv_goto (tgt := 4) hx hb d_CS_faults_59 (by decide) ?_
        exact ih_4 _ hm _ _ rfl ls H locs (lv_sub hl [3, 1, 0] rfl) hP hD hS
theorem d_CS_triedWith_0 : decode prog_1_method_34_code 0 = .ok (.iconst 0, 1) := by decide +kernel
theorem d_CS_triedWith_1 : decode prog_1_method_34_code 1 = .ok (.istore_n 2, 1) := by decide +kernel
theorem d_CS_triedWith_2 : decode prog_1_method_34_code 2 = .ok (.iconst 0, 1) := by decide +kernel
theorem d_CS_triedWith_3 : decode prog_1_method_34_code 3 = .ok (.istore_n 3, 1) := by decide +kernel
theorem d_CS_triedWith_4 : decode prog_1_method_34_code 4 = .ok (.iload_n 3, 1) := by decide +kernel
theorem d_CS_triedWith_5 : decode prog_1_method_34_code 5 = .ok (.aload_n 0, 1) := by decide +kernel
theorem d_CS_triedWith_6 : decode prog_1_method_34_code 6 = .ok (.getfield 12, 3) := by decide +kernel
theorem d_CS_triedWith_9 : decode prog_1_method_34_code 9 = .ok (.getfield 77, 3) := by decide +kernel
theorem d_CS_triedWith_12 : decode prog_1_method_34_code 12 = .ok (.if_icmp .ge 25, 3) := by decide +kernel
theorem d_CS_triedWith_15 : decode prog_1_method_34_code 15 = .ok (.aload_n 0, 1) := by decide +kernel
theorem d_CS_triedWith_16 : decode prog_1_method_34_code 16 = .ok (.getfield 68, 3) := by decide +kernel
theorem d_CS_triedWith_19 : decode prog_1_method_34_code 19 = .ok (.iload_n 3, 1) := by decide +kernel
theorem d_CS_triedWith_20 : decode prog_1_method_34_code 20 = .ok (.iaload, 1) := by decide +kernel
theorem d_CS_triedWith_21 : decode prog_1_method_34_code 21 = .ok (.iload_n 1, 1) := by decide +kernel
theorem d_CS_triedWith_22 : decode prog_1_method_34_code 22 = .ok (.if_icmp .ne 9, 3) := by decide +kernel
theorem d_CS_triedWith_25 : decode prog_1_method_34_code 25 = .ok (.iload_n 2, 1) := by decide +kernel
theorem d_CS_triedWith_26 : decode prog_1_method_34_code 26 = .ok (.iconst 1, 1) := by decide +kernel
theorem d_CS_triedWith_27 : decode prog_1_method_34_code 27 = .ok (.iload_n 3, 1) := by decide +kernel
theorem d_CS_triedWith_28 : decode prog_1_method_34_code 28 = .ok (.ishl, 1) := by decide +kernel
theorem d_CS_triedWith_29 : decode prog_1_method_34_code 29 = .ok (.ior, 1) := by decide +kernel
theorem d_CS_triedWith_30 : decode prog_1_method_34_code 30 = .ok (.istore_n 2, 1) := by decide +kernel
theorem d_CS_triedWith_31 : decode prog_1_method_34_code 31 = .ok (.iinc 3 1, 3) := by decide +kernel
theorem d_CS_triedWith_34 : decode prog_1_method_34_code 34 = .ok (.goto (-30), 3) := by decide +kernel
theorem d_CS_triedWith_37 : decode prog_1_method_34_code 37 = .ok (.iload_n 2, 1) := by decide +kernel
theorem d_CS_triedWith_38 : decode prog_1_method_34_code 38 = .ok (.ireturn, 1) := by decide +kernel
abbrev wd_CS_triedWith (cI cJ cG cZ : ClassId) (a0 a0_net a0_painter a0_polynomial a0_listCounter a0_setFinder a0_takingApart a0_greedyRun a0_allowed a0_shown a0_shades a0_attempt a0_net_near a0_net_tail a0_net_head : Nat) (v0_net_nodes : Int32) (v0_net_arcCount : Int32) (v0_net_version : Int32) (w0_attempt : Nat → Int32) : va_W := [(a0, .inr (0, [.ref a0_net, .ref a0_painter, .ref a0_polynomial, .ref a0_listCounter, .ref a0_setFinder, .ref a0_takingApart, .ref a0_greedyRun, .ref a0_allowed, .ref a0_shown, .ref a0_shades, .ref a0_attempt])), (a0_net, .inr (1, [.ref a0_net_near, .ref a0_net_tail, .ref a0_net_head, .int v0_net_nodes, .int v0_net_arcCount, .int v0_net_version])), (a0_attempt, .inl (cI, 12, .inl w0_attempt))]
abbrev us_CS_triedWith : List Cond := .code y_CS_triedWith prog_1_method_34_code 4 (some .int) :: gtbl
abbrev rm_CS_triedWith : Room := { frames := 0, cells := 0, slots := 0, locals := 0 }
def m_CS_triedWith (F : Nat) (v0_net_nodes : Int32) (v0_net_arcCount : Int32) (v0_net_version : Int32) (w0_attempt : Nat → Int32) (p1 : Int32) : Option (Int32) :=
  gL (fun (k_4 : (Int32 × Int32) → Option (Int32)) (z_4 : Int32 × Int32) => match z_4 with
  | (x2_1, x3_2) =>
  if v0_net_nodes ≤ x3_2 then (
    some x2_1
  ) else (
    gC (inb x3_2 12) (
    if (w0_attempt x3_2.toNatClampNeg) = p1 then (
      gB (x2_1 ||| ((1 : Int32) <<< (x3_2 &&& 31))) (fun x2_7 =>
      gB (x3_2 + 1) (fun x3_8 =>
      k_4 (x2_7, x3_8)))
    ) else (
      gB (x3_2 + 1) (fun x3_6 =>
      k_4 (x2_1, x3_6))
    ))
  )
  ) F (0, 0)
set_option maxHeartbeats 4000000 in
set_option maxRecDepth 100000 in
theorem c_CS_triedWith (l : Launch) (dC : Nat → ClassId) (dI : Nat → Nat → Nat) (cI cJ cG cZ : ClassId) (a0 a0_net a0_painter a0_polynomial a0_listCounter a0_setFinder a0_takingApart a0_greedyRun a0_allowed a0_shown a0_shades a0_attempt a0_net_near a0_net_tail a0_net_head : Nat) (sz : Nat) (F : Nat) (v0_net_nodes : Int32) (v0_net_arcCount : Int32) (v0_net_version : Int32) (w0_attempt : Nat → Int32) (p1 : Int32) (ret : Int32) (hm : m_CS_triedWith F v0_net_nodes v0_net_arcCount v0_net_version w0_attempt p1 = some ret) : Met l y_CS_triedWith us_CS_triedWith rm_CS_triedWith (PcS (dC, dI) (tyL cI cJ cG cZ) [.ref a0, .int p1] sz (wd_CS_triedWith cI cJ cG cZ a0 a0_net a0_painter a0_polynomial a0_listCounter a0_setFinder a0_takingApart a0_greedyRun a0_allowed a0_shown a0_shades a0_attempt a0_net_near a0_net_tail a0_net_head v0_net_nodes v0_net_arcCount v0_net_version w0_attempt)) (va_Qi (fun (r : Int32) (_ : Unit) => ret = r) (fun _ t => PoS (dC, dI) (tyL cI cJ cG cZ) (wd_CS_triedWith cI cJ cG cZ a0 a0_net a0_painter a0_polynomial a0_listCounter a0_setFinder a0_takingApart a0_greedyRun a0_allowed a0_shown a0_shades a0_attempt a0_net_near a0_net_tail a0_net_head v0_net_nodes v0_net_arcCount v0_net_version w0_attempt) (va_A (wd_CS_triedWith cI cJ cG cZ a0 a0_net a0_painter a0_polynomial a0_listCounter a0_setFinder a0_takingApart a0_greedyRun a0_allowed a0_shown a0_shades a0_attempt a0_net_near a0_net_tail a0_net_head v0_net_nodes v0_net_arcCount v0_net_version w0_attempt) sz) t) (va_A (wd_CS_triedWith cI cJ cG cZ a0 a0_net a0_painter a0_polynomial a0_listCounter a0_setFinder a0_takingApart a0_greedyRun a0_allowed a0_shown a0_shades a0_attempt a0_net_near a0_net_tail a0_net_head v0_net_nodes v0_net_arcCount v0_net_version w0_attempt) sz)) 0 0 (va_A (wd_CS_triedWith cI cJ cG cZ a0 a0_net a0_painter a0_polynomial a0_listCounter a0_setFinder a0_takingApart a0_greedyRun a0_allowed a0_shown a0_shades a0_attempt a0_net_near a0_net_tail a0_net_head v0_net_nodes v0_net_arcCount v0_net_version w0_attempt) sz) := by
  refine Met.ofW (cc := prog_1_method_34_code) (maxL := 4) (ret := (some .int)) (by decide) rfl ?_
  intro p e s m args below meth c s₁ B hml hv
  obtain ⟨rfl, hsz, hP, hK, hD0, hNw⟩ := hv
  have hx := B.exec
  have hb := B.bytes
  have hr := B.returns
  have htt : ∀ w ∈ gtbl, w.before _ s = true := fun w h => atoms_spec (ws := us_CS_triedWith) B.pre w (List.mem_cons_of_mem _ h)
  have hown : s.vm.findClass R_CS = some m.cls := findClass_of_methodNamed B.named
  have hlocks := B.notSynchronized
  subst hsz
  have hD := hD0.self (sz := s.heap.size)
  generalize hAe : va_A (wd_CS_triedWith cI cJ cG cZ a0 a0_net a0_painter a0_polynomial a0_listCounter a0_setFinder a0_takingApart a0_greedyRun a0_allowed a0_shown a0_shades a0_attempt a0_net_near a0_net_tail a0_net_head v0_net_nodes v0_net_arcCount v0_net_version w0_attempt) s.heap.size = A at hD ⊢
  have hA : ∀ q : Nat, s.heap.size ≤ q → A q := fun q h => by rw [← hAe]; exact Or.inr h
  clear hAe hD0
  have hS : va_S A s.heap s.heap [] := va_S.rf
  have hl := lv_entry ([.ref a0, .int p1]) (n := 4) (Nat.le_of_ble_eq_true rfl)
  rw [lg_entry_eq]
  generalize (lg_sl ([.ref a0, .int p1]) ++ List.replicate (4 - (lg_sl ([.ref a0, .int p1])).length) Slot.unset).toArray = ls at hl ⊢
  have hl : lv_has ls 4 [(0, .ref a0), (1, .int p1)] := hl
  generalize hH : s.heap = H at hP ⊢
  have hS : va_S A s.heap H [] := hH ▸ hS
  generalize hLo : ([] : List Loc) = locs at hS ⊢
  clear hH hLo
  unfold m_CS_triedWith at hm
  refine lv_iconst (v := 0) hx hb d_CS_triedWith_0 (by decide) ?_
  refine lv_istore_n (lv' := [(2, .int 0), (0, .ref a0), (1, .int p1)]) hx hb d_CS_triedWith_1 rfl hl (by decide) rfl (fun ls hl => ?_)
  refine lv_iconst (v := 0) hx hb d_CS_triedWith_2 (by decide) ?_
  refine lv_istore_n (lv' := [(3, .int 0), (2, .int 0), (0, .ref a0), (1, .int p1)]) hx hb d_CS_triedWith_3 rfl hl (by decide) rfl (fun ls hl => ?_)
  refine gL_e (P := (fun (z_4 : Int32 × Int32) => ∀ (x2_1 : Int32), ∀ (x3_2 : Int32), z_4 = (x2_1, x3_2) → ∀ (ls : Array Slot) (H : Heap) (locs : List Loc), lv_has ls 4 [(0, .ref a0), (1, .int p1), (2, .int x2_1), (3, .int x3_2)] → va_P (dC, dI) vwCl (wd_CS_triedWith cI cJ cG cZ a0 a0_net a0_painter a0_polynomial a0_listCounter a0_setFinder a0_takingApart a0_greedyRun a0_allowed a0_shown a0_shades a0_attempt a0_net_near a0_net_tail a0_net_head v0_net_nodes v0_net_arcCount v0_net_version w0_attempt) H → va_D A (wd_CS_triedWith cI cJ cG cZ a0 a0_net a0_painter a0_polynomial a0_listCounter a0_setFinder a0_takingApart a0_greedyRun a0_allowed a0_shown a0_shades a0_attempt a0_net_near a0_net_tail a0_net_head v0_net_nodes v0_net_arcCount v0_net_version w0_attempt) → va_S A s.heap H locs → W p l e (headSpec us_CS_triedWith rm_CS_triedWith).room s m ([.ref a0, .int p1] : List Value).toArray below meth c H locs 0 0 (MQ below (va_Qi (fun (r : Int32) (_ : Unit) => ret = r) (fun _ t => PoS (dC, dI) (tyL cI cJ cG cZ) (wd_CS_triedWith cI cJ cG cZ a0 a0_net a0_painter a0_polynomial a0_listCounter a0_setFinder a0_takingApart a0_greedyRun a0_allowed a0_shown a0_shades a0_attempt a0_net_near a0_net_tail a0_net_head v0_net_nodes v0_net_arcCount v0_net_version w0_attempt) A t) A) ([.ref a0, .int p1] : List Value).toArray s 0 0 A) (F0 m 4 ls []))) hm (fun k_4 z_4 ih_4 hm => ?_) _ _ rfl ls H locs (lv_sub hl [2, 3, 1, 0] rfl) hP hD hS
  intro x2_1 x3_2 hz ls H locs hl hP hD hS
  subst hz
  dsimp only at hm
  refine lv_iload_n hx hb d_CS_triedWith_4 rfl (lv_at hl 3 rfl) ?_
  refine lv_aload_n hx hb d_CS_triedWith_5 rfl (lv_at hl 0 rfl) ?_
  refine va_get (D := (dC, dI)) (ci := 0) (v := .ref a0_net) (C := R_CS) (T := T_CS) (N := 11) hx hb htt hin_CS hown hK hP 0 rfl rfl 0 (by decide) (htt _ kt_224) (fun _ h9 => h9) rfl d_CS_triedWith_6 ?_
  refine va_get (D := (dC, dI)) (ci := 1) (v := .int v0_net_nodes) (C := R_Net) (T := T_Net) (N := 6) hx hb htt hin_Net hown hK hP 1 rfl rfl 3 (by decide) (htt _ kt_46) (fun _ h9 => h9) rfl d_CS_triedWith_9 ?_
  refine lv_icmp_ge (tgt := 37) hx hb d_CS_triedWith_12 (by decide) (fun c_3 => ?_) (fun c_3 => ?_)
  · have hm := ite_t c_3 hm
    refine lv_iload_n hx hb d_CS_triedWith_37 rfl (lv_at hl 2 rfl) ?_
    cases hm
    exact W.iret hx hb hr (fun t ht hW => ⟨⟨_, (), rfl, rfl, by rw [ht]; exact hP, va_K.moved hW.alike hK, hD⟩, hS.F ht⟩) hS.2.2 d_CS_triedWith_38
  · have hm := ite_f c_3 hm
    refine lv_aload_n hx hb d_CS_triedWith_15 rfl (lv_at hl 0 rfl) ?_
    refine va_get (D := (dC, dI)) (ci := 0) (v := .ref a0_attempt) (C := R_CS) (T := T_CS) (N := 11) hx hb htt hin_CS hown hK hP 0 rfl rfl 10 (by decide) (htt _ kt_234) (fun _ h9 => h9) rfl d_CS_triedWith_16 ?_
    refine lv_iload_n hx hb d_CS_triedWith_19 rfl (lv_at hl 3 rfl) ?_
    obtain ⟨hi_4, hm⟩ := gC_e hm
    refine va_iald hx hb hK hP 2 0 rfl rfl (inb_vp hi_4) d_CS_triedWith_20 ?_
    refine lv_iload_n hx hb d_CS_triedWith_21 rfl (lv_at hl 1 rfl) ?_
    refine lv_icmp_ne (tgt := 31) hx hb d_CS_triedWith_22 (by decide) (fun c_5 => ?_) (fun c_5 => ?_)
    · have hm := ite_f c_5 hm
      obtain ⟨x3_6, ex3_6⟩ : ∃ y : Int32, y = x3_2 + 1 := ⟨_, rfl⟩
      have hm := gB_at ex3_6 hm
      refine lv_iinc (v := x3_6) (lv' := [(3, .int x3_6), (0, .ref a0), (1, .int p1), (2, .int x2_1)]) hx hb d_CS_triedWith_31 hl (k := 3) rfl (by rw [ex3_6]; rfl) (by decide) rfl (fun ls hl => ?_)
      refine lv_goto (tgt := 4) hx hb d_CS_triedWith_34 (by decide) ?_
      exact ih_4 _ hm _ _ rfl ls H locs (lv_sub hl [1, 2, 3, 0] rfl) hP hD hS
    · have hm := ite_t c_5 hm
      refine lv_iload_n hx hb d_CS_triedWith_25 rfl (lv_at hl 2 rfl) ?_
      refine lv_iconst (v := 1) hx hb d_CS_triedWith_26 (by decide) ?_
      refine lv_iload_n hx hb d_CS_triedWith_27 rfl (lv_at hl 3 rfl) ?_
      refine lv_ishl hx hb d_CS_triedWith_28 ?_
      refine lv_ior hx hb d_CS_triedWith_29 ?_
      refine lv_topi (fun x2_7 ex2_7 => ?_)
      have hm := gB_at ex2_7 hm
      refine lv_istore_n (lv' := [(2, .int x2_7), (0, .ref a0), (1, .int p1), (3, .int x3_2)]) hx hb d_CS_triedWith_30 rfl hl (by decide) rfl (fun ls hl => ?_)
      obtain ⟨x3_8, ex3_8⟩ : ∃ y : Int32, y = x3_2 + 1 := ⟨_, rfl⟩
      have hm := gB_at ex3_8 hm
      refine lv_iinc (v := x3_8) (lv' := [(3, .int x3_8), (2, .int x2_7), (0, .ref a0), (1, .int p1)]) hx hb d_CS_triedWith_31 hl (k := 3) rfl (by rw [ex3_8]; rfl) (by decide) rfl (fun ls hl => ?_)
      refine lv_goto (tgt := 4) hx hb d_CS_triedWith_34 (by decide) ?_
      exact ih_4 _ hm _ _ rfl ls H locs (lv_sub hl [2, 3, 1, 0] rfl) hP hD hS
theorem d_CS_turn_0 : decode prog_1_method_26_code 0 = .ok (.aload_n 0, 1) := by decide +kernel
theorem d_CS_turn_1 : decode prog_1_method_26_code 1 = .ok (.getfield 12, 3) := by decide +kernel
theorem d_CS_turn_4 : decode prog_1_method_26_code 4 = .ok (.iload_n 1, 1) := by decide +kernel
theorem d_CS_turn_5 : decode prog_1_method_26_code 5 = .ok (.invokevirtual 118, 3) := by decide +kernel
theorem d_CS_turn_8 : decode prog_1_method_26_code 8 = .ok (.ifCond .eq 30, 3) := by decide +kernel
theorem d_CS_turn_11 : decode prog_1_method_26_code 11 = .ok (.iload_n 2, 1) := by decide +kernel
theorem d_CS_turn_12 : decode prog_1_method_26_code 12 = .ok (.invokestatic 191, 3) := by decide +kernel
theorem d_CS_turn_15 : decode prog_1_method_26_code 15 = .ok (.ifCond .eq 23, 3) := by decide +kernel
theorem d_CS_turn_18 : decode prog_1_method_26_code 18 = .ok (.aload_n 0, 1) := by decide +kernel
theorem d_CS_turn_19 : decode prog_1_method_26_code 19 = .ok (.getfield 68, 3) := by decide +kernel
theorem d_CS_turn_22 : decode prog_1_method_26_code 22 = .ok (.iload_n 1, 1) := by decide +kernel
theorem d_CS_turn_23 : decode prog_1_method_26_code 23 = .ok (.iaload, 1) := by decide +kernel
theorem d_CS_turn_24 : decode prog_1_method_26_code 24 = .ok (.iconst (-1), 1) := by decide +kernel
theorem d_CS_turn_25 : decode prog_1_method_26_code 25 = .ok (.if_icmp .eq 13, 3) := by decide +kernel
theorem d_CS_turn_28 : decode prog_1_method_26_code 28 = .ok (.aload_n 0, 1) := by decide +kernel
theorem d_CS_turn_29 : decode prog_1_method_26_code 29 = .ok (.getfield 68, 3) := by decide +kernel
theorem d_CS_turn_32 : decode prog_1_method_26_code 32 = .ok (.iload_n 1, 1) := by decide +kernel
theorem d_CS_turn_33 : decode prog_1_method_26_code 33 = .ok (.iaload, 1) := by decide +kernel
theorem d_CS_turn_34 : decode prog_1_method_26_code 34 = .ok (.iload_n 2, 1) := by decide +kernel
theorem d_CS_turn_35 : decode prog_1_method_26_code 35 = .ok (.if_icmp .ne 5, 3) := by decide +kernel
theorem d_CS_turn_38 : decode prog_1_method_26_code 38 = .ok (.iconst (-1), 1) := by decide +kernel
theorem d_CS_turn_39 : decode prog_1_method_26_code 39 = .ok (.ireturn, 1) := by decide +kernel
theorem d_CS_turn_40 : decode prog_1_method_26_code 40 = .ok (.aload_n 0, 1) := by decide +kernel
theorem d_CS_turn_41 : decode prog_1_method_26_code 41 = .ok (.getfield 68, 3) := by decide +kernel
theorem d_CS_turn_44 : decode prog_1_method_26_code 44 = .ok (.iload_n 1, 1) := by decide +kernel
theorem d_CS_turn_45 : decode prog_1_method_26_code 45 = .ok (.iaload, 1) := by decide +kernel
theorem d_CS_turn_46 : decode prog_1_method_26_code 46 = .ok (.istore_n 3, 1) := by decide +kernel
theorem d_CS_turn_47 : decode prog_1_method_26_code 47 = .ok (.aload_n 0, 1) := by decide +kernel
theorem d_CS_turn_48 : decode prog_1_method_26_code 48 = .ok (.getfield 12, 3) := by decide +kernel
theorem d_CS_turn_51 : decode prog_1_method_26_code 51 = .ok (.iconst 1, 1) := by decide +kernel
theorem d_CS_turn_52 : decode prog_1_method_26_code 52 = .ok (.iload_n 1, 1) := by decide +kernel
theorem d_CS_turn_53 : decode prog_1_method_26_code 53 = .ok (.ishl, 1) := by decide +kernel
theorem d_CS_turn_54 : decode prog_1_method_26_code 54 = .ok (.aload_n 0, 1) := by decide +kernel
theorem d_CS_turn_55 : decode prog_1_method_26_code 55 = .ok (.iload_n 3, 1) := by decide +kernel
theorem d_CS_turn_56 : decode prog_1_method_26_code 56 = .ok (.invokevirtual 200, 3) := by decide +kernel
theorem d_CS_turn_59 : decode prog_1_method_26_code 59 = .ok (.aload_n 0, 1) := by decide +kernel
theorem d_CS_turn_60 : decode prog_1_method_26_code 60 = .ok (.iload_n 2, 1) := by decide +kernel
theorem d_CS_turn_61 : decode prog_1_method_26_code 61 = .ok (.invokevirtual 200, 3) := by decide +kernel
theorem d_CS_turn_64 : decode prog_1_method_26_code 64 = .ok (.ior, 1) := by decide +kernel
theorem d_CS_turn_65 : decode prog_1_method_26_code 65 = .ok (.invokevirtual 204, 3) := by decide +kernel
theorem d_CS_turn_68 : decode prog_1_method_26_code 68 = .ok (.istore 4, 2) := by decide +kernel
theorem d_CS_turn_70 : decode prog_1_method_26_code 70 = .ok (.iconst 0, 1) := by decide +kernel
theorem d_CS_turn_71 : decode prog_1_method_26_code 71 = .ok (.istore 5, 2) := by decide +kernel
theorem d_CS_turn_73 : decode prog_1_method_26_code 73 = .ok (.iload 5, 2) := by decide +kernel
theorem d_CS_turn_75 : decode prog_1_method_26_code 75 = .ok (.aload_n 0, 1) := by decide +kernel
theorem d_CS_turn_76 : decode prog_1_method_26_code 76 = .ok (.getfield 12, 3) := by decide +kernel
theorem d_CS_turn_79 : decode prog_1_method_26_code 79 = .ok (.getfield 77, 3) := by decide +kernel
theorem d_CS_turn_82 : decode prog_1_method_26_code 82 = .ok (.if_icmp .ge 42, 3) := by decide +kernel
theorem d_CS_turn_85 : decode prog_1_method_26_code 85 = .ok (.iload 4, 2) := by decide +kernel
theorem d_CS_turn_87 : decode prog_1_method_26_code 87 = .ok (.iload 5, 2) := by decide +kernel
theorem d_CS_turn_89 : decode prog_1_method_26_code 89 = .ok (.ishr, 1) := by decide +kernel
theorem d_CS_turn_90 : decode prog_1_method_26_code 90 = .ok (.iconst 1, 1) := by decide +kernel
theorem d_CS_turn_91 : decode prog_1_method_26_code 91 = .ok (.iand, 1) := by decide +kernel
theorem d_CS_turn_92 : decode prog_1_method_26_code 92 = .ok (.ifCond .eq 26, 3) := by decide +kernel
theorem d_CS_turn_95 : decode prog_1_method_26_code 95 = .ok (.aload_n 0, 1) := by decide +kernel
theorem d_CS_turn_96 : decode prog_1_method_26_code 96 = .ok (.getfield 68, 3) := by decide +kernel
theorem d_CS_turn_99 : decode prog_1_method_26_code 99 = .ok (.iload 5, 2) := by decide +kernel
theorem d_CS_turn_101 : decode prog_1_method_26_code 101 = .ok (.aload_n 0, 1) := by decide +kernel
theorem d_CS_turn_102 : decode prog_1_method_26_code 102 = .ok (.getfield 68, 3) := by decide +kernel
theorem d_CS_turn_105 : decode prog_1_method_26_code 105 = .ok (.iload 5, 2) := by decide +kernel
theorem d_CS_turn_107 : decode prog_1_method_26_code 107 = .ok (.iaload, 1) := by decide +kernel
theorem d_CS_turn_108 : decode prog_1_method_26_code 108 = .ok (.iload_n 3, 1) := by decide +kernel
theorem d_CS_turn_109 : decode prog_1_method_26_code 109 = .ok (.if_icmp .ne 7, 3) := by decide +kernel
theorem d_CS_turn_112 : decode prog_1_method_26_code 112 = .ok (.iload_n 2, 1) := by decide +kernel
theorem d_CS_turn_113 : decode prog_1_method_26_code 113 = .ok (.goto 4, 3) := by decide +kernel
theorem d_CS_turn_116 : decode prog_1_method_26_code 116 = .ok (.iload_n 3, 1) := by decide +kernel
theorem d_CS_turn_117 : decode prog_1_method_26_code 117 = .ok (.iastore, 1) := by decide +kernel
theorem d_CS_turn_118 : decode prog_1_method_26_code 118 = .ok (.iinc 5 1, 3) := by decide +kernel
theorem d_CS_turn_121 : decode prog_1_method_26_code 121 = .ok (.goto (-48), 3) := by decide +kernel
theorem d_CS_turn_124 : decode prog_1_method_26_code 124 = .ok (.iload 4, 2) := by decide +kernel
theorem d_CS_turn_126 : decode prog_1_method_26_code 126 = .ok (.invokestatic 207, 3) := by decide +kernel
theorem d_CS_turn_129 : decode prog_1_method_26_code 129 = .ok (.ireturn, 1) := by decide +kernel
abbrev wd_CS_turn (cI cJ cG cZ : ClassId) (a0 a0_net a0_painter a0_polynomial a0_listCounter a0_setFinder a0_takingApart a0_greedyRun a0_allowed a0_shown a0_shades a0_attempt a0_net_near a0_net_tail a0_net_head : Nat) (v0_net_nodes : Int32) (v0_net_arcCount : Int32) (v0_net_version : Int32) (w0_net_near : Nat → Int32) (w0_attempt : Nat → Int32) : va_W := [(a0, .inr (0, [.ref a0_net, .ref a0_painter, .ref a0_polynomial, .ref a0_listCounter, .ref a0_setFinder, .ref a0_takingApart, .ref a0_greedyRun, .ref a0_allowed, .ref a0_shown, .ref a0_shades, .ref a0_attempt])), (a0_net, .inr (1, [.ref a0_net_near, .ref a0_net_tail, .ref a0_net_head, .int v0_net_nodes, .int v0_net_arcCount, .int v0_net_version])), (a0_net_near, .inl (cI, 12, .inl w0_net_near)), (a0_attempt, .inl (cI, 12, .inl w0_attempt))]
abbrev us_CS_turn : List Cond := .code y_CS_turn prog_1_method_26_code 6 (some .int) :: gtbl
abbrev rm_CS_turn : Room := { frames := 1, cells := 0, slots := 0, locals := 27 }
def m_CS_turn (F : Nat) (v0_net_nodes : Int32) (v0_net_arcCount : Int32) (v0_net_version : Int32) (w0_net_near : Nat → Int32) (w0_attempt : Nat → Int32) (p1 : Int32) (p2 : Int32) : Option (Int32 × (Nat → Int32)) :=
  gM (m_Net_isNode F v0_net_nodes v0_net_arcCount v0_net_version p1) (fun q_1 =>
  if q_1 = 0 then (
    some ((-1), w0_attempt)
  ) else (
    gM (m_CS_isColour F p2) (fun q_6 =>
    if q_6 = 0 then (
      some ((-1), w0_attempt)
    ) else (
      gC (inb p1 12) (
      if (w0_attempt p1.toNatClampNeg) = ((-1) : Int32) then (
        some ((-1), w0_attempt)
      ) else (
        gC (inb p1 12) (
        if (w0_attempt p1.toNatClampNeg) = p2 then (
          some ((-1), w0_attempt)
        ) else (
          gC (inb p1 12) (
          gB (w0_attempt p1.toNatClampNeg) (fun x3_16 =>
          gM (m_CS_triedWith F v0_net_nodes v0_net_arcCount v0_net_version w0_attempt x3_16) (fun q_17 =>
          gM (m_CS_triedWith F v0_net_nodes v0_net_arcCount v0_net_version w0_attempt p2) (fun q_20 =>
          gM (m_Net_partOf F v0_net_nodes v0_net_arcCount v0_net_version w0_net_near ((1 : Int32) <<< (p1 &&& 31)) (q_17 ||| q_20)) (fun q_23 =>
          gL (fun (k_73 : (Int32 × (Nat → Int32)) → Option (Int32 × (Nat → Int32))) (z_73 : Int32 × (Nat → Int32)) => match z_73 with
          | (x5_26, w0_attempt_27) =>
          if v0_net_nodes ≤ x5_26 then (
            some (bitc q_23, w0_attempt_27)
          ) else (
            if ((q_23 >>> (x5_26 &&& 31)) &&& 1) = 0 then (
              gB (x5_26 + 1) (fun x5_30 =>
              k_73 (x5_30, w0_attempt_27))
            ) else (
              gC (inb x5_26 12) (
              gB (α := Int32 → Option (Int32 × (Nat → Int32))) (fun s_32 =>
                gC (inb x5_26 12) (
                gB (x5_26 + 1) (fun x5_34 =>
                k_73 (x5_34, upd w0_attempt_27 x5_26.toNatClampNeg s_32)))
              ) (fun J_117 =>
              if (w0_attempt_27 x5_26.toNatClampNeg) = x3_16 then (
                J_117 p2
              ) else (
                J_117 x3_16
              )
              ))
            )
          )
          ) F (0, w0_attempt))))))
        ))
      ))
    ))
  ))
set_option maxHeartbeats 4000000 in
set_option maxRecDepth 100000 in
theorem c_CS_turn (l : Launch) (dC : Nat → ClassId) (dI : Nat → Nat → Nat) (cI cJ cG cZ : ClassId) (a0 a0_net a0_painter a0_polynomial a0_listCounter a0_setFinder a0_takingApart a0_greedyRun a0_allowed a0_shown a0_shades a0_attempt a0_net_near a0_net_tail a0_net_head : Nat) (sz : Nat) (F : Nat) (v0_net_nodes : Int32) (v0_net_arcCount : Int32) (v0_net_version : Int32) (w0_net_near : Nat → Int32) (w0_attempt : Nat → Int32) (p1 : Int32) (p2 : Int32) (ret : Int32) (o_w0_attempt : Nat → Int32) (hm : m_CS_turn F v0_net_nodes v0_net_arcCount v0_net_version w0_net_near w0_attempt p1 p2 = some (ret, o_w0_attempt)) : Met l y_CS_turn us_CS_turn rm_CS_turn (PcS (dC, dI) (tyL cI cJ cG cZ) [.ref a0, .int p1, .int p2] sz (wd_CS_turn cI cJ cG cZ a0 a0_net a0_painter a0_polynomial a0_listCounter a0_setFinder a0_takingApart a0_greedyRun a0_allowed a0_shown a0_shades a0_attempt a0_net_near a0_net_tail a0_net_head v0_net_nodes v0_net_arcCount v0_net_version w0_net_near w0_attempt)) (va_Qi (fun (r : Int32) (_ : Unit) => ret = r) (fun _ t => PoS (dC, dI) (tyL cI cJ cG cZ) (wd_CS_turn cI cJ cG cZ a0 a0_net a0_painter a0_polynomial a0_listCounter a0_setFinder a0_takingApart a0_greedyRun a0_allowed a0_shown a0_shades a0_attempt a0_net_near a0_net_tail a0_net_head v0_net_nodes v0_net_arcCount v0_net_version w0_net_near o_w0_attempt) (va_A (wd_CS_turn cI cJ cG cZ a0 a0_net a0_painter a0_polynomial a0_listCounter a0_setFinder a0_takingApart a0_greedyRun a0_allowed a0_shown a0_shades a0_attempt a0_net_near a0_net_tail a0_net_head v0_net_nodes v0_net_arcCount v0_net_version w0_net_near w0_attempt) sz) t) (va_A (wd_CS_turn cI cJ cG cZ a0 a0_net a0_painter a0_polynomial a0_listCounter a0_setFinder a0_takingApart a0_greedyRun a0_allowed a0_shown a0_shades a0_attempt a0_net_near a0_net_tail a0_net_head v0_net_nodes v0_net_arcCount v0_net_version w0_net_near w0_attempt) sz)) 0 0 (va_A (wd_CS_turn cI cJ cG cZ a0 a0_net a0_painter a0_polynomial a0_listCounter a0_setFinder a0_takingApart a0_greedyRun a0_allowed a0_shown a0_shades a0_attempt a0_net_near a0_net_tail a0_net_head v0_net_nodes v0_net_arcCount v0_net_version w0_net_near w0_attempt) sz) := by
  refine Met.ofW (cc := prog_1_method_26_code) (maxL := 6) (ret := (some .int)) (by decide) rfl ?_
  intro p e s m args below meth c s₁ B hml hv
  obtain ⟨rfl, hsz, hP, hK, hD0, hNw⟩ := hv
  have hx := B.exec
  have hb := B.bytes
  have hr := B.returns
  have htt : ∀ w ∈ gtbl, w.before _ s = true := fun w h => atoms_spec (ws := us_CS_turn) B.pre w (List.mem_cons_of_mem _ h)
  have hown : s.vm.findClass R_CS = some m.cls := findClass_of_methodNamed B.named
  have hlocks := B.notSynchronized
  subst hsz
  have hD := hD0.self (sz := s.heap.size)
  generalize hAe : va_A (wd_CS_turn cI cJ cG cZ a0 a0_net a0_painter a0_polynomial a0_listCounter a0_setFinder a0_takingApart a0_greedyRun a0_allowed a0_shown a0_shades a0_attempt a0_net_near a0_net_tail a0_net_head v0_net_nodes v0_net_arcCount v0_net_version w0_net_near w0_attempt) s.heap.size = A at hD ⊢
  have hA : ∀ q : Nat, s.heap.size ≤ q → A q := fun q h => by rw [← hAe]; exact Or.inr h
  clear hAe hD0
  have hS : va_S A s.heap s.heap [] := va_S.rf
  have hl := lv_entry ([.ref a0, .int p1, .int p2]) (n := 6) (Nat.le_of_ble_eq_true rfl)
  rw [lg_entry_eq]
  generalize (lg_sl ([.ref a0, .int p1, .int p2]) ++ List.replicate (6 - (lg_sl ([.ref a0, .int p1, .int p2])).length) Slot.unset).toArray = ls at hl ⊢
  have hl : lv_has ls 6 [(0, .ref a0), (1, .int p1), (2, .int p2)] := hl
  generalize hH : s.heap = H at hP ⊢
  have hS : va_S A s.heap H [] := hH ▸ hS
  generalize hLo : ([] : List Loc) = locs at hS ⊢
  clear hH hLo
  unfold m_CS_turn at hm
  refine lv_aload_n hx hb d_CS_turn_0 rfl (lv_at hl 0 rfl) ?_
  refine va_get (D := (dC, dI)) (ci := 0) (v := .ref a0_net) (C := R_CS) (T := T_CS) (N := 11) hx hb htt hin_CS hown hK hP 0 rfl rfl 0 (by decide) (htt _ kt_224) (fun _ h9 => h9) rfl d_CS_turn_1 ?_
  refine lv_iload_n hx hb d_CS_turn_4 rfl (lv_at hl 1 rfl) ?_
  obtain ⟨q_1, hc_2, hm⟩ := gM_e hm
  have hPc : va_P (dC, dI) vwCl (wd_Net_isNode cI cJ cG cZ a0_net a0_net_near a0_net_tail a0_net_head v0_net_nodes v0_net_arcCount v0_net_version) H := hP.sub [1] rfl
  have hDc : va_D A (wd_Net_isNode cI cJ cG cZ a0_net a0_net_near a0_net_tail a0_net_head v0_net_nodes v0_net_arcCount v0_net_version) := hD.sub [1] (by decide) rfl
  have hFc : ∀ q, va_A (wd_Net_isNode cI cJ cG cZ a0_net a0_net_near a0_net_tail a0_net_head v0_net_nodes v0_net_arcCount v0_net_version) H.size q → A q := va_free hD hS hA [1] rfl
  refine va_calli (va_runV (As := [.int p1]) (rest := []) ⟨hx, hb, hml, hown, htt⟩ (c_Net_isNode l dC dI cI cJ cG cZ a0_net a0_net_near a0_net_tail a0_net_head H.size F v0_net_nodes v0_net_arcCount v0_net_version p1 q_1 hc_2) (cwV 1 htt (gdV kt_382 kt_275 kt_276 kt_2 kt_277) rfl rfl rfl (by decide +kernel) ⟨(Nat.le_of_ble_eq_true rfl), (Nat.le_of_ble_eq_true rfl)⟩) ⟨PcS_blind, va_recv hK hPc (ci := 1) (q0 := 0) rfl rfl, PcS_in hPc hK hDc hNw⟩ rfl rfl hl.1 rfl (lv_room (Nat.le_of_ble_eq_true rfl)) d_CS_turn_5 ⟨Nat.zero_le _, Nat.zero_le _⟩) hS (fun q _ h => hFc q h) hFc (fun r_3 u t H1 locs ht hvm hw hB hz1 hk1 hS => ?_)
  obtain ⟨hP1, hK1, hD1⟩ := hB
  rw [ht] at hP1
  obtain ⟨hw, hz_4⟩ := hw
  subst hw
  obtain ⟨hP, hD⟩ := va_join (wr := [(a0, .inr (0, [.ref a0_net, .ref a0_painter, .ref a0_polynomial, .ref a0_listCounter, .ref a0_setFinder, .ref a0_takingApart, .ref a0_greedyRun, .ref a0_allowed, .ref a0_shown, .ref a0_shades, .ref a0_attempt])), (a0_net_near, .inl (cI, 12, .inl w0_net_near)), (a0_attempt, .inl (cI, 12, .inl w0_attempt))]) (w1 := (wd_Net_isNode cI cJ cG cZ a0_net a0_net_near a0_net_tail a0_net_head v0_net_nodes v0_net_arcCount v0_net_version)) hP hD [1] [0, 2, 3] rfl rfl (by decide) (by decide) hk1 hFc hP1 hD1
  have hP : va_P (dC, dI) vwCl (wd_CS_turn cI cJ cG cZ a0 a0_net a0_painter a0_polynomial a0_listCounter a0_setFinder a0_takingApart a0_greedyRun a0_allowed a0_shown a0_shades a0_attempt a0_net_near a0_net_tail a0_net_head v0_net_nodes v0_net_arcCount v0_net_version w0_net_near w0_attempt) H1 := hP.sub [0, 3, 1, 2] rfl
  have hD : va_D A (wd_CS_turn cI cJ cG cZ a0 a0_net a0_painter a0_polynomial a0_listCounter a0_setFinder a0_takingApart a0_greedyRun a0_allowed a0_shown a0_shades a0_attempt a0_net_near a0_net_tail a0_net_head v0_net_nodes v0_net_arcCount v0_net_version w0_net_near w0_attempt) := hD.sub [0, 3, 1, 2] (by decide) rfl
  clear hP1 hK1 hD1 hk1 hPc hDc hFc ht hvm hz1
  generalize H1 = H at hP hS ⊢
  refine lv_if_eq (tgt := 38) hx hb d_CS_turn_8 (by decide) (fun c_5 => ?_) (fun c_5 => ?_)
  · have hm := ite_t c_5 hm
    refine lv_iconst (v := (-1)) hx hb d_CS_turn_38 (by decide) ?_
    cases hm
    exact W.iret hx hb hr (fun t ht hW => ⟨⟨_, (), rfl, rfl, by rw [ht]; exact hP, va_K.moved hW.alike hK, hD⟩, hS.F ht⟩) hS.2.2 d_CS_turn_39
  · have hm := ite_f c_5 hm
    refine lv_iload_n hx hb d_CS_turn_11 rfl (lv_at hl 2 rfl) ?_
    obtain ⟨q_6, hc_7, hm⟩ := gM_e hm
    have hPc : va_P (dC, dI) vwCl (wd_CS_isColour cI cJ cG cZ) H := hP.sub [] rfl
    have hDc : va_D A (wd_CS_isColour cI cJ cG cZ) := hD.sub [] (by decide) rfl
    have hFc : ∀ q, va_A (wd_CS_isColour cI cJ cG cZ) H.size q → A q := va_free hD hS hA [] rfl
    refine va_calli (va_runS (As := [.int p2]) (rest := []) ⟨hx, hb, hml, hown, htt⟩ (c_CS_isColour l dC dI cI cJ cG cZ H.size F p2 q_6 hc_7) (cwS 1 htt (gdS kt_614 kt_615 kt_1 kt_616) rfl rfl rfl (by decide +kernel) ⟨(Nat.le_of_ble_eq_true rfl), (Nat.le_of_ble_eq_true rfl)⟩) ⟨PcS_blind, PcS_in hPc hK hDc hNw⟩ rfl rfl hl.1 rfl (lv_room (Nat.le_of_ble_eq_true rfl)) d_CS_turn_12 ⟨Nat.zero_le _, Nat.zero_le _⟩) hS (fun q _ h => hFc q h) hFc (fun r_8 u t H1 locs ht hvm hw hB hz1 hk1 hS => ?_)
    obtain ⟨hP1, hK1, hD1⟩ := hB
    rw [ht] at hP1
    obtain ⟨hw, hz_9⟩ := hw
    subst hw
    obtain ⟨hP, hD⟩ := va_join (wr := [(a0, .inr (0, [.ref a0_net, .ref a0_painter, .ref a0_polynomial, .ref a0_listCounter, .ref a0_setFinder, .ref a0_takingApart, .ref a0_greedyRun, .ref a0_allowed, .ref a0_shown, .ref a0_shades, .ref a0_attempt])), (a0_net, .inr (1, [.ref a0_net_near, .ref a0_net_tail, .ref a0_net_head, .int v0_net_nodes, .int v0_net_arcCount, .int v0_net_version])), (a0_net_near, .inl (cI, 12, .inl w0_net_near)), (a0_attempt, .inl (cI, 12, .inl w0_attempt))]) (w1 := (wd_CS_isColour cI cJ cG cZ)) hP hD [] [0, 1, 2, 3] rfl rfl (by decide) (by decide) hk1 hFc hP1 hD1
    have hP : va_P (dC, dI) vwCl (wd_CS_turn cI cJ cG cZ a0 a0_net a0_painter a0_polynomial a0_listCounter a0_setFinder a0_takingApart a0_greedyRun a0_allowed a0_shown a0_shades a0_attempt a0_net_near a0_net_tail a0_net_head v0_net_nodes v0_net_arcCount v0_net_version w0_net_near w0_attempt) H1 := hP.sub [0, 1, 2, 3] rfl
    have hD : va_D A (wd_CS_turn cI cJ cG cZ a0 a0_net a0_painter a0_polynomial a0_listCounter a0_setFinder a0_takingApart a0_greedyRun a0_allowed a0_shown a0_shades a0_attempt a0_net_near a0_net_tail a0_net_head v0_net_nodes v0_net_arcCount v0_net_version w0_net_near w0_attempt) := hD.sub [0, 1, 2, 3] (by decide) rfl
    clear hP1 hK1 hD1 hk1 hPc hDc hFc ht hvm hz1
    generalize H1 = H at hP hS ⊢
    refine lv_if_eq (tgt := 38) hx hb d_CS_turn_15 (by decide) (fun c_10 => ?_) (fun c_10 => ?_)
    · have hm := ite_t c_10 hm
      refine lv_iconst (v := (-1)) hx hb d_CS_turn_38 (by decide) ?_
      cases hm
      exact W.iret hx hb hr (fun t ht hW => ⟨⟨_, (), rfl, rfl, by rw [ht]; exact hP, va_K.moved hW.alike hK, hD⟩, hS.F ht⟩) hS.2.2 d_CS_turn_39
    · have hm := ite_f c_10 hm
      refine lv_aload_n hx hb d_CS_turn_18 rfl (lv_at hl 0 rfl) ?_
      refine va_get (D := (dC, dI)) (ci := 0) (v := .ref a0_attempt) (C := R_CS) (T := T_CS) (N := 11) hx hb htt hin_CS hown hK hP 0 rfl rfl 10 (by decide) (htt _ kt_234) (fun _ h9 => h9) rfl d_CS_turn_19 ?_
      refine lv_iload_n hx hb d_CS_turn_22 rfl (lv_at hl 1 rfl) ?_
      obtain ⟨hi_11, hm⟩ := gC_e hm
      refine va_iald hx hb hK hP 3 0 rfl rfl (inb_vp hi_11) d_CS_turn_23 ?_
      refine lv_iconst (v := (-1)) hx hb d_CS_turn_24 (by decide) ?_
      refine lv_icmp_eq (tgt := 38) hx hb d_CS_turn_25 (by decide) (fun c_12 => ?_) (fun c_12 => ?_)
      · have hm := ite_t c_12 hm
        refine lv_iconst (v := (-1)) hx hb d_CS_turn_38 (by decide) ?_
        cases hm
        exact W.iret hx hb hr (fun t ht hW => ⟨⟨_, (), rfl, rfl, by rw [ht]; exact hP, va_K.moved hW.alike hK, hD⟩, hS.F ht⟩) hS.2.2 d_CS_turn_39
      · have hm := ite_f c_12 hm
        refine lv_aload_n hx hb d_CS_turn_28 rfl (lv_at hl 0 rfl) ?_
        refine va_get (D := (dC, dI)) (ci := 0) (v := .ref a0_attempt) (C := R_CS) (T := T_CS) (N := 11) hx hb htt hin_CS hown hK hP 0 rfl rfl 10 (by decide) (htt _ kt_234) (fun _ h9 => h9) rfl d_CS_turn_29 ?_
        refine lv_iload_n hx hb d_CS_turn_32 rfl (lv_at hl 1 rfl) ?_
        obtain ⟨hi_13, hm⟩ := gC_e hm
        refine va_iald hx hb hK hP 3 0 rfl rfl (inb_vp hi_13) d_CS_turn_33 ?_
        refine lv_iload_n hx hb d_CS_turn_34 rfl (lv_at hl 2 rfl) ?_
        refine lv_icmp_ne (tgt := 40) hx hb d_CS_turn_35 (by decide) (fun c_14 => ?_) (fun c_14 => ?_)
        · have hm := ite_f c_14 hm
          refine lv_aload_n hx hb d_CS_turn_40 rfl (lv_at hl 0 rfl) ?_
          refine va_get (D := (dC, dI)) (ci := 0) (v := .ref a0_attempt) (C := R_CS) (T := T_CS) (N := 11) hx hb htt hin_CS hown hK hP 0 rfl rfl 10 (by decide) (htt _ kt_234) (fun _ h9 => h9) rfl d_CS_turn_41 ?_
          refine lv_iload_n hx hb d_CS_turn_44 rfl (lv_at hl 1 rfl) ?_
          obtain ⟨hi_15, hm⟩ := gC_e hm
          refine va_iald hx hb hK hP 3 0 rfl rfl (inb_vp hi_15) d_CS_turn_45 ?_
          refine lv_topi (fun x3_16 ex3_16 => ?_)
          have hm := gB_at ex3_16 hm
          refine lv_istore_n (lv' := [(3, .int x3_16), (0, .ref a0), (1, .int p1), (2, .int p2)]) hx hb d_CS_turn_46 rfl hl (by decide) rfl (fun ls hl => ?_)
          refine lv_aload_n hx hb d_CS_turn_47 rfl (lv_at hl 1 rfl) ?_
          refine va_get (D := (dC, dI)) (ci := 0) (v := .ref a0_net) (C := R_CS) (T := T_CS) (N := 11) hx hb htt hin_CS hown hK hP 0 rfl rfl 0 (by decide) (htt _ kt_224) (fun _ h9 => h9) rfl d_CS_turn_48 ?_
          refine lv_iconst (v := 1) hx hb d_CS_turn_51 (by decide) ?_
          refine lv_iload_n hx hb d_CS_turn_52 rfl (lv_at hl 2 rfl) ?_
          refine lv_ishl hx hb d_CS_turn_53 ?_
          refine lv_aload_n hx hb d_CS_turn_54 rfl (lv_at hl 1 rfl) ?_
          refine lv_iload_n hx hb d_CS_turn_55 rfl (lv_at hl 0 rfl) ?_
          obtain ⟨q_17, hc_18, hm⟩ := gM_e hm
          have hPc : va_P (dC, dI) vwCl (wd_CS_triedWith cI cJ cG cZ a0 a0_net a0_painter a0_polynomial a0_listCounter a0_setFinder a0_takingApart a0_greedyRun a0_allowed a0_shown a0_shades a0_attempt a0_net_near a0_net_tail a0_net_head v0_net_nodes v0_net_arcCount v0_net_version w0_attempt) H := hP.sub [0, 1, 3] rfl
          have hDc : va_D A (wd_CS_triedWith cI cJ cG cZ a0 a0_net a0_painter a0_polynomial a0_listCounter a0_setFinder a0_takingApart a0_greedyRun a0_allowed a0_shown a0_shades a0_attempt a0_net_near a0_net_tail a0_net_head v0_net_nodes v0_net_arcCount v0_net_version w0_attempt) := hD.sub [0, 1, 3] (by decide) rfl
          have hFc : ∀ q, va_A (wd_CS_triedWith cI cJ cG cZ a0 a0_net a0_painter a0_polynomial a0_listCounter a0_setFinder a0_takingApart a0_greedyRun a0_allowed a0_shown a0_shades a0_attempt a0_net_near a0_net_tail a0_net_head v0_net_nodes v0_net_arcCount v0_net_version w0_attempt) H.size q → A q := va_free hD hS hA [0, 1, 3] rfl
          refine va_calli (va_runV (As := [.int x3_16]) (rest := [.int ((1 : Int32) <<< (p1 &&& 31)), .ref a0_net]) ⟨hx, hb, hml, hown, htt⟩ (c_CS_triedWith l dC dI cI cJ cG cZ a0 a0_net a0_painter a0_polynomial a0_listCounter a0_setFinder a0_takingApart a0_greedyRun a0_allowed a0_shown a0_shades a0_attempt a0_net_near a0_net_tail a0_net_head H.size F v0_net_nodes v0_net_arcCount v0_net_version w0_attempt x3_16 q_17 hc_18) (cwV 1 htt (gdV kt_629 kt_631 kp_39 kt_1 kt_632) rfl rfl rfl (by decide +kernel) ⟨(Nat.le_of_ble_eq_true rfl), (Nat.le_of_ble_eq_true rfl)⟩) ⟨PcS_blind, va_recv hK hPc (ci := 0) (q0 := 0) rfl rfl, PcS_in hPc hK hDc hNw⟩ rfl rfl hl.1 rfl (lv_room (Nat.le_of_ble_eq_true rfl)) d_CS_turn_56 ⟨Nat.zero_le _, Nat.zero_le _⟩) hS (fun q _ h => hFc q h) hFc (fun r_19 u t H1 locs ht hvm hw hB hz1 hk1 hS => ?_)
          obtain ⟨hP1, hK1, hD1⟩ := hB
          rw [ht] at hP1
          subst hw
          obtain ⟨hP, hD⟩ := va_join (wr := [(a0_net_near, .inl (cI, 12, .inl w0_net_near))]) (w1 := (wd_CS_triedWith cI cJ cG cZ a0 a0_net a0_painter a0_polynomial a0_listCounter a0_setFinder a0_takingApart a0_greedyRun a0_allowed a0_shown a0_shades a0_attempt a0_net_near a0_net_tail a0_net_head v0_net_nodes v0_net_arcCount v0_net_version w0_attempt)) hP hD [0, 1, 3] [2] rfl rfl (by decide) (by decide) hk1 hFc hP1 hD1
          have hP : va_P (dC, dI) vwCl (wd_CS_turn cI cJ cG cZ a0 a0_net a0_painter a0_polynomial a0_listCounter a0_setFinder a0_takingApart a0_greedyRun a0_allowed a0_shown a0_shades a0_attempt a0_net_near a0_net_tail a0_net_head v0_net_nodes v0_net_arcCount v0_net_version w0_net_near w0_attempt) H1 := hP.sub [1, 2, 0, 3] rfl
          have hD : va_D A (wd_CS_turn cI cJ cG cZ a0 a0_net a0_painter a0_polynomial a0_listCounter a0_setFinder a0_takingApart a0_greedyRun a0_allowed a0_shown a0_shades a0_attempt a0_net_near a0_net_tail a0_net_head v0_net_nodes v0_net_arcCount v0_net_version w0_net_near w0_attempt) := hD.sub [1, 2, 0, 3] (by decide) rfl
          clear hP1 hK1 hD1 hk1 hPc hDc hFc ht hvm hz1
          generalize H1 = H at hP hS ⊢
          refine lv_aload_n hx hb d_CS_turn_59 rfl (lv_at hl 1 rfl) ?_
          refine lv_iload_n hx hb d_CS_turn_60 rfl (lv_at hl 3 rfl) ?_
          obtain ⟨q_20, hc_21, hm⟩ := gM_e hm
          have hPc : va_P (dC, dI) vwCl (wd_CS_triedWith cI cJ cG cZ a0 a0_net a0_painter a0_polynomial a0_listCounter a0_setFinder a0_takingApart a0_greedyRun a0_allowed a0_shown a0_shades a0_attempt a0_net_near a0_net_tail a0_net_head v0_net_nodes v0_net_arcCount v0_net_version w0_attempt) H := hP.sub [0, 1, 3] rfl
          have hDc : va_D A (wd_CS_triedWith cI cJ cG cZ a0 a0_net a0_painter a0_polynomial a0_listCounter a0_setFinder a0_takingApart a0_greedyRun a0_allowed a0_shown a0_shades a0_attempt a0_net_near a0_net_tail a0_net_head v0_net_nodes v0_net_arcCount v0_net_version w0_attempt) := hD.sub [0, 1, 3] (by decide) rfl
          have hFc : ∀ q, va_A (wd_CS_triedWith cI cJ cG cZ a0 a0_net a0_painter a0_polynomial a0_listCounter a0_setFinder a0_takingApart a0_greedyRun a0_allowed a0_shown a0_shades a0_attempt a0_net_near a0_net_tail a0_net_head v0_net_nodes v0_net_arcCount v0_net_version w0_attempt) H.size q → A q := va_free hD hS hA [0, 1, 3] rfl
          refine va_calli (va_runV (As := [.int p2]) (rest := [.int q_17, .int ((1 : Int32) <<< (p1 &&& 31)), .ref a0_net]) ⟨hx, hb, hml, hown, htt⟩ (c_CS_triedWith l dC dI cI cJ cG cZ a0 a0_net a0_painter a0_polynomial a0_listCounter a0_setFinder a0_takingApart a0_greedyRun a0_allowed a0_shown a0_shades a0_attempt a0_net_near a0_net_tail a0_net_head H.size F v0_net_nodes v0_net_arcCount v0_net_version w0_attempt p2 q_20 hc_21) (cwV 1 htt (gdV kt_629 kt_631 kp_39 kt_1 kt_632) rfl rfl rfl (by decide +kernel) ⟨(Nat.le_of_ble_eq_true rfl), (Nat.le_of_ble_eq_true rfl)⟩) ⟨PcS_blind, va_recv hK hPc (ci := 0) (q0 := 0) rfl rfl, PcS_in hPc hK hDc hNw⟩ rfl rfl hl.1 rfl (lv_room (Nat.le_of_ble_eq_true rfl)) d_CS_turn_61 ⟨Nat.zero_le _, Nat.zero_le _⟩) hS (fun q _ h => hFc q h) hFc (fun r_22 u t H1 locs ht hvm hw hB hz1 hk1 hS => ?_)
          obtain ⟨hP1, hK1, hD1⟩ := hB
          rw [ht] at hP1
          subst hw
          obtain ⟨hP, hD⟩ := va_join (wr := [(a0_net_near, .inl (cI, 12, .inl w0_net_near))]) (w1 := (wd_CS_triedWith cI cJ cG cZ a0 a0_net a0_painter a0_polynomial a0_listCounter a0_setFinder a0_takingApart a0_greedyRun a0_allowed a0_shown a0_shades a0_attempt a0_net_near a0_net_tail a0_net_head v0_net_nodes v0_net_arcCount v0_net_version w0_attempt)) hP hD [0, 1, 3] [2] rfl rfl (by decide) (by decide) hk1 hFc hP1 hD1
          have hP : va_P (dC, dI) vwCl (wd_CS_turn cI cJ cG cZ a0 a0_net a0_painter a0_polynomial a0_listCounter a0_setFinder a0_takingApart a0_greedyRun a0_allowed a0_shown a0_shades a0_attempt a0_net_near a0_net_tail a0_net_head v0_net_nodes v0_net_arcCount v0_net_version w0_net_near w0_attempt) H1 := hP.sub [1, 2, 0, 3] rfl
          have hD : va_D A (wd_CS_turn cI cJ cG cZ a0 a0_net a0_painter a0_polynomial a0_listCounter a0_setFinder a0_takingApart a0_greedyRun a0_allowed a0_shown a0_shades a0_attempt a0_net_near a0_net_tail a0_net_head v0_net_nodes v0_net_arcCount v0_net_version w0_net_near w0_attempt) := hD.sub [1, 2, 0, 3] (by decide) rfl
          clear hP1 hK1 hD1 hk1 hPc hDc hFc ht hvm hz1
          generalize H1 = H at hP hS ⊢
          refine lv_ior hx hb d_CS_turn_64 ?_
          obtain ⟨q_23, hc_24, hm⟩ := gM_e hm
          have hPc : va_P (dC, dI) vwCl (wd_Net_partOf cI cJ cG cZ a0_net a0_net_near a0_net_tail a0_net_head v0_net_nodes v0_net_arcCount v0_net_version w0_net_near) H := hP.sub [1, 2] rfl
          have hDc : va_D A (wd_Net_partOf cI cJ cG cZ a0_net a0_net_near a0_net_tail a0_net_head v0_net_nodes v0_net_arcCount v0_net_version w0_net_near) := hD.sub [1, 2] (by decide) rfl
          have hFc : ∀ q, va_A (wd_Net_partOf cI cJ cG cZ a0_net a0_net_near a0_net_tail a0_net_head v0_net_nodes v0_net_arcCount v0_net_version w0_net_near) H.size q → A q := va_free hD hS hA [1, 2] rfl
          refine va_calli (va_runV (As := [.int ((1 : Int32) <<< (p1 &&& 31)), .int (q_17 ||| q_20)]) (rest := []) ⟨hx, hb, hml, hown, htt⟩ (c_Net_partOf l dC dI cI cJ cG cZ a0_net a0_net_near a0_net_tail a0_net_head H.size F v0_net_nodes v0_net_arcCount v0_net_version w0_net_near ((1 : Int32) <<< (p1 &&& 31)) (q_17 ||| q_20) q_23 hc_24) (cwV 2 htt (gdV kt_633 kt_481 kt_482 kt_2 kt_483) rfl rfl rfl (by decide +kernel) ⟨(Nat.le_of_ble_eq_true rfl), (Nat.le_of_ble_eq_true rfl)⟩) ⟨PcS_blind, va_recv hK hPc (ci := 1) (q0 := 0) rfl rfl, PcS_in hPc hK hDc hNw⟩ rfl rfl hl.1 rfl (lv_room (Nat.le_of_ble_eq_true rfl)) d_CS_turn_65 ⟨Nat.zero_le _, Nat.zero_le _⟩) hS (fun q _ h => hFc q h) hFc (fun r_25 u t H1 locs ht hvm hw hB hz1 hk1 hS => ?_)
          obtain ⟨hP1, hK1, hD1⟩ := hB
          rw [ht] at hP1
          subst hw
          obtain ⟨hP, hD⟩ := va_join (wr := [(a0, .inr (0, [.ref a0_net, .ref a0_painter, .ref a0_polynomial, .ref a0_listCounter, .ref a0_setFinder, .ref a0_takingApart, .ref a0_greedyRun, .ref a0_allowed, .ref a0_shown, .ref a0_shades, .ref a0_attempt])), (a0_attempt, .inl (cI, 12, .inl w0_attempt))]) (w1 := (wd_Net_partOf cI cJ cG cZ a0_net a0_net_near a0_net_tail a0_net_head v0_net_nodes v0_net_arcCount v0_net_version w0_net_near)) hP hD [1, 2] [0, 3] rfl rfl (by decide) (by decide) hk1 hFc hP1 hD1
          have hP : va_P (dC, dI) vwCl (wd_CS_turn cI cJ cG cZ a0 a0_net a0_painter a0_polynomial a0_listCounter a0_setFinder a0_takingApart a0_greedyRun a0_allowed a0_shown a0_shades a0_attempt a0_net_near a0_net_tail a0_net_head v0_net_nodes v0_net_arcCount v0_net_version w0_net_near w0_attempt) H1 := hP.sub [0, 2, 3, 1] rfl
          have hD : va_D A (wd_CS_turn cI cJ cG cZ a0 a0_net a0_painter a0_polynomial a0_listCounter a0_setFinder a0_takingApart a0_greedyRun a0_allowed a0_shown a0_shades a0_attempt a0_net_near a0_net_tail a0_net_head v0_net_nodes v0_net_arcCount v0_net_version w0_net_near w0_attempt) := hD.sub [0, 2, 3, 1] (by decide) rfl
          clear hP1 hK1 hD1 hk1 hPc hDc hFc ht hvm hz1
          generalize H1 = H at hP hS ⊢
          refine lv_istore (lv' := [(4, .int q_23), (3, .int x3_16), (0, .ref a0), (1, .int p1), (2, .int p2)]) hx hb d_CS_turn_68 hl (by decide) rfl (fun ls hl => ?_)
          refine lv_iconst (v := 0) hx hb d_CS_turn_70 (by decide) ?_
          refine lv_istore (lv' := [(5, .int 0), (4, .int q_23), (3, .int x3_16), (0, .ref a0), (1, .int p1), (2, .int p2)]) hx hb d_CS_turn_71 hl (by decide) rfl (fun ls hl => ?_)
          refine gL_e (P := (fun (z_73 : Int32 × (Nat → Int32)) => ∀ (x5_26 : Int32), ∀ (w0_attempt_27 : Nat → Int32), z_73 = (x5_26, w0_attempt_27) → ∀ (ls : Array Slot) (H : Heap) (locs : List Loc), lv_has ls 6 [(0, .ref a0), (2, .int p2), (3, .int x3_16), (4, .int q_23), (5, .int x5_26)] → va_P (dC, dI) vwCl (wd_CS_turn cI cJ cG cZ a0 a0_net a0_painter a0_polynomial a0_listCounter a0_setFinder a0_takingApart a0_greedyRun a0_allowed a0_shown a0_shades a0_attempt a0_net_near a0_net_tail a0_net_head v0_net_nodes v0_net_arcCount v0_net_version w0_net_near w0_attempt_27) H → va_D A (wd_CS_turn cI cJ cG cZ a0 a0_net a0_painter a0_polynomial a0_listCounter a0_setFinder a0_takingApart a0_greedyRun a0_allowed a0_shown a0_shades a0_attempt a0_net_near a0_net_tail a0_net_head v0_net_nodes v0_net_arcCount v0_net_version w0_net_near w0_attempt_27) → va_S A s.heap H locs → W p l e (headSpec us_CS_turn rm_CS_turn).room s m ([.ref a0, .int p1, .int p2] : List Value).toArray below meth c H locs 0 0 (MQ below (va_Qi (fun (r : Int32) (_ : Unit) => ret = r) (fun _ t => PoS (dC, dI) (tyL cI cJ cG cZ) (wd_CS_turn cI cJ cG cZ a0 a0_net a0_painter a0_polynomial a0_listCounter a0_setFinder a0_takingApart a0_greedyRun a0_allowed a0_shown a0_shades a0_attempt a0_net_near a0_net_tail a0_net_head v0_net_nodes v0_net_arcCount v0_net_version w0_net_near o_w0_attempt) A t) A) ([.ref a0, .int p1, .int p2] : List Value).toArray s 0 0 A) (F0 m 73 ls []))) hm (fun k_73 z_73 ih_73 hm => ?_) _ _ rfl ls H locs (lv_sub hl [3, 5, 2, 1, 0] rfl) hP hD hS
          intro x5_26 w0_attempt_27 hz ls H locs hl hP hD hS
          subst hz
          dsimp only at hm
          refine lv_iload hx hb d_CS_turn_73 (lv_at hl 4 rfl) ?_
          refine lv_aload_n hx hb d_CS_turn_75 rfl (lv_at hl 0 rfl) ?_
          refine va_get (D := (dC, dI)) (ci := 0) (v := .ref a0_net) (C := R_CS) (T := T_CS) (N := 11) hx hb htt hin_CS hown hK hP 0 rfl rfl 0 (by decide) (htt _ kt_224) (fun _ h9 => h9) rfl d_CS_turn_76 ?_
          refine va_get (D := (dC, dI)) (ci := 1) (v := .int v0_net_nodes) (C := R_Net) (T := T_Net) (N := 6) hx hb htt hin_Net hown hK hP 1 rfl rfl 3 (by decide) (htt _ kt_46) (fun _ h9 => h9) rfl d_CS_turn_79 ?_
          refine lv_icmp_ge (tgt := 124) hx hb d_CS_turn_82 (by decide) (fun c_28 => ?_) (fun c_28 => ?_)
          · have hm := ite_t c_28 hm
            refine lv_iload hx hb d_CS_turn_124 (lv_at hl 3 rfl) ?_
            refine gx_bit hx hb hml hown htt kt_428 hK hNw hP hD hS hA hl.1 (lv_room (Nat.le_of_ble_eq_true rfl)) (Nat.le_of_ble_eq_true rfl) (Nat.le_of_ble_eq_true rfl) (Nat.zero_le _) (Nat.zero_le _) d_CS_turn_126 (fun H locs hP hD hS => ?_)
            cases hm
            exact W.iret hx hb hr (fun t ht hW => ⟨⟨_, (), rfl, rfl, by rw [ht]; exact hP, va_K.moved hW.alike hK, hD⟩, hS.F ht⟩) hS.2.2 d_CS_turn_129
          · have hm := ite_f c_28 hm
            refine lv_iload hx hb d_CS_turn_85 (lv_at hl 3 rfl) ?_
            refine lv_iload hx hb d_CS_turn_87 (lv_at hl 4 rfl) ?_
            refine lv_ishr hx hb d_CS_turn_89 ?_
            refine lv_iconst (v := 1) hx hb d_CS_turn_90 (by decide) ?_
            refine lv_iand hx hb d_CS_turn_91 ?_
            refine lv_if_eq (tgt := 118) hx hb d_CS_turn_92 (by decide) (fun c_29 => ?_) (fun c_29 => ?_)
            · have hm := ite_t c_29 hm
              obtain ⟨x5_30, ex5_30⟩ : ∃ y : Int32, y = x5_26 + 1 := ⟨_, rfl⟩
              have hm := gB_at ex5_30 hm
              refine lv_iinc (v := x5_30) (lv' := [(5, .int x5_30), (0, .ref a0), (2, .int p2), (3, .int x3_16), (4, .int q_23)]) hx hb d_CS_turn_118 hl (k := 4) rfl (by rw [ex5_30]; rfl) (by decide) rfl (fun ls hl => ?_)
              refine lv_goto (tgt := 73) hx hb d_CS_turn_121 (by decide) ?_
              exact ih_73 _ hm _ _ rfl ls H locs (lv_sub hl [1, 2, 3, 4, 0] rfl) hP hD hS
            · have hm := ite_f c_29 hm
              refine lv_aload_n hx hb d_CS_turn_95 rfl (lv_at hl 0 rfl) ?_
              refine va_get (D := (dC, dI)) (ci := 0) (v := .ref a0_attempt) (C := R_CS) (T := T_CS) (N := 11) hx hb htt hin_CS hown hK hP 0 rfl rfl 10 (by decide) (htt _ kt_234) (fun _ h9 => h9) rfl d_CS_turn_96 ?_
              refine lv_iload hx hb d_CS_turn_99 (lv_at hl 4 rfl) ?_
              refine lv_aload_n hx hb d_CS_turn_101 rfl (lv_at hl 0 rfl) ?_
              refine va_get (D := (dC, dI)) (ci := 0) (v := .ref a0_attempt) (C := R_CS) (T := T_CS) (N := 11) hx hb htt hin_CS hown hK hP 0 rfl rfl 10 (by decide) (htt _ kt_234) (fun _ h9 => h9) rfl d_CS_turn_102 ?_
              refine lv_iload hx hb d_CS_turn_105 (lv_at hl 4 rfl) ?_
              obtain ⟨hi_31, hm⟩ := gC_e hm
              refine va_iald hx hb hK hP 3 0 rfl rfl (inb_vp hi_31) d_CS_turn_107 ?_
              refine lv_iload_n hx hb d_CS_turn_108 rfl (lv_at hl 2 rfl) ?_
              obtain ⟨J_117, hJ_117, hm⟩ := gB_x hm
              have jp_117 : ∀ (s_32 : Int32) (ls : Array Slot) (H : Heap) (locs : List Loc), J_117 s_32 = some (ret, o_w0_attempt) → lv_has ls 6 [(0, .ref a0), (2, .int p2), (3, .int x3_16), (4, .int q_23), (5, .int x5_26)] → va_P (dC, dI) vwCl (wd_CS_turn cI cJ cG cZ a0 a0_net a0_painter a0_polynomial a0_listCounter a0_setFinder a0_takingApart a0_greedyRun a0_allowed a0_shown a0_shades a0_attempt a0_net_near a0_net_tail a0_net_head v0_net_nodes v0_net_arcCount v0_net_version w0_net_near w0_attempt_27) H → va_D A (wd_CS_turn cI cJ cG cZ a0 a0_net a0_painter a0_polynomial a0_listCounter a0_setFinder a0_takingApart a0_greedyRun a0_allowed a0_shown a0_shades a0_attempt a0_net_near a0_net_tail a0_net_head v0_net_nodes v0_net_arcCount v0_net_version w0_net_near w0_attempt_27) → va_S A s.heap H locs → W p l e (headSpec us_CS_turn rm_CS_turn).room s m ([.ref a0, .int p1, .int p2] : List Value).toArray below meth c H locs 0 0 (MQ below (va_Qi (fun (r : Int32) (_ : Unit) => ret = r) (fun _ t => PoS (dC, dI) (tyL cI cJ cG cZ) (wd_CS_turn cI cJ cG cZ a0 a0_net a0_painter a0_polynomial a0_listCounter a0_setFinder a0_takingApart a0_greedyRun a0_allowed a0_shown a0_shades a0_attempt a0_net_near a0_net_tail a0_net_head v0_net_nodes v0_net_arcCount v0_net_version w0_net_near o_w0_attempt) A t) A) ([.ref a0, .int p1, .int p2] : List Value).toArray s 0 0 A) (F0 m 117 ls [.int s_32, .int x5_26, .ref a0_attempt]) := by
                intro s_32 ls H locs hm hl hP hD hS
                have hm := jn1 hJ_117 hm
                obtain ⟨hi_33, hm⟩ := gC_e hm
                refine va_iast hx hb hK hP hD hS 3 0 rfl rfl (inb_vp hi_33) d_CS_turn_117 (fun H locs hP hD hS => ?_)
                have hP : va_P (dC, dI) vwCl (wd_CS_turn cI cJ cG cZ a0 a0_net a0_painter a0_polynomial a0_listCounter a0_setFinder a0_takingApart a0_greedyRun a0_allowed a0_shown a0_shades a0_attempt a0_net_near a0_net_tail a0_net_head v0_net_nodes v0_net_arcCount v0_net_version w0_net_near (upd w0_attempt_27 x5_26.toNatClampNeg s_32)) H := hP
                have hD : va_D A (wd_CS_turn cI cJ cG cZ a0 a0_net a0_painter a0_polynomial a0_listCounter a0_setFinder a0_takingApart a0_greedyRun a0_allowed a0_shown a0_shades a0_attempt a0_net_near a0_net_tail a0_net_head v0_net_nodes v0_net_arcCount v0_net_version w0_net_near (upd w0_attempt_27 x5_26.toNatClampNeg s_32)) := hD
                obtain ⟨x5_34, ex5_34⟩ : ∃ y : Int32, y = x5_26 + 1 := ⟨_, rfl⟩
                have hm := gB_at ex5_34 hm
                refine lv_iinc (v := x5_34) (lv' := [(5, .int x5_34), (0, .ref a0), (2, .int p2), (3, .int x3_16), (4, .int q_23)]) hx hb d_CS_turn_118 hl (k := 4) rfl (by rw [ex5_34]; rfl) (by decide) rfl (fun ls hl => ?_)
                refine lv_goto (tgt := 73) hx hb d_CS_turn_121 (by decide) ?_
                exact ih_73 _ hm _ _ rfl ls H locs (lv_sub hl [1, 2, 3, 4, 0] rfl) hP hD hS
              clear hJ_117
              refine lv_icmp_ne (tgt := 116) hx hb d_CS_turn_109 (by decide) (fun c_35 => ?_) (fun c_35 => ?_)
              · have hm := ite_f c_35 hm
                refine lv_iload_n hx hb d_CS_turn_116 rfl (lv_at hl 2 rfl) ?_
                exact jp_117 _ ls H locs hm (lv_sub hl [0, 1, 2, 3, 4] rfl) hP hD hS
              · have hm := ite_t c_35 hm
                refine lv_iload_n hx hb d_CS_turn_112 rfl (lv_at hl 1 rfl) ?_
                refine lv_goto (tgt := 117) hx hb d_CS_turn_113 (by decide) ?_
                exact jp_117 _ ls H locs hm (lv_sub hl [0, 1, 2, 3, 4] rfl) hP hD hS
        · have hm := ite_t c_14 hm
          refine lv_iconst (v := (-1)) hx hb d_CS_turn_38 (by decide) ?_
          cases hm
          exact W.iret hx hb hr (fun t ht hW => ⟨⟨_, (), rfl, rfl, by rw [ht]; exact hP, va_K.moved hW.alike hK, hD⟩, hS.F ht⟩) hS.2.2 d_CS_turn_39
theorem d_CS_countTriedColours_0 : decode prog_1_method_35_code 0 = .ok (.iconst 0, 1) := by decide +kernel
theorem d_CS_countTriedColours_1 : decode prog_1_method_35_code 1 = .ok (.istore_n 1, 1) := by decide +kernel
theorem d_CS_countTriedColours_2 : decode prog_1_method_35_code 2 = .ok (.iconst 0, 1) := by decide +kernel
theorem d_CS_countTriedColours_3 : decode prog_1_method_35_code 3 = .ok (.istore_n 2, 1) := by decide +kernel
theorem d_CS_countTriedColours_4 : decode prog_1_method_35_code 4 = .ok (.iload_n 2, 1) := by decide +kernel
theorem d_CS_countTriedColours_5 : decode prog_1_method_35_code 5 = .ok (.aload_n 0, 1) := by decide +kernel
theorem d_CS_countTriedColours_6 : decode prog_1_method_35_code 6 = .ok (.getfield 12, 3) := by decide +kernel
theorem d_CS_countTriedColours_9 : decode prog_1_method_35_code 9 = .ok (.getfield 77, 3) := by decide +kernel
theorem d_CS_countTriedColours_12 : decode prog_1_method_35_code 12 = .ok (.if_icmp .ge 30, 3) := by decide +kernel
theorem d_CS_countTriedColours_15 : decode prog_1_method_35_code 15 = .ok (.aload_n 0, 1) := by decide +kernel
theorem d_CS_countTriedColours_16 : decode prog_1_method_35_code 16 = .ok (.getfield 68, 3) := by decide +kernel
theorem d_CS_countTriedColours_19 : decode prog_1_method_35_code 19 = .ok (.iload_n 2, 1) := by decide +kernel
theorem d_CS_countTriedColours_20 : decode prog_1_method_35_code 20 = .ok (.iaload, 1) := by decide +kernel
theorem d_CS_countTriedColours_21 : decode prog_1_method_35_code 21 = .ok (.iconst (-1), 1) := by decide +kernel
theorem d_CS_countTriedColours_22 : decode prog_1_method_35_code 22 = .ok (.if_icmp .eq 14, 3) := by decide +kernel
theorem d_CS_countTriedColours_25 : decode prog_1_method_35_code 25 = .ok (.iload_n 1, 1) := by decide +kernel
theorem d_CS_countTriedColours_26 : decode prog_1_method_35_code 26 = .ok (.iconst 1, 1) := by decide +kernel
theorem d_CS_countTriedColours_27 : decode prog_1_method_35_code 27 = .ok (.aload_n 0, 1) := by decide +kernel
theorem d_CS_countTriedColours_28 : decode prog_1_method_35_code 28 = .ok (.getfield 68, 3) := by decide +kernel
theorem d_CS_countTriedColours_31 : decode prog_1_method_35_code 31 = .ok (.iload_n 2, 1) := by decide +kernel
theorem d_CS_countTriedColours_32 : decode prog_1_method_35_code 32 = .ok (.iaload, 1) := by decide +kernel
theorem d_CS_countTriedColours_33 : decode prog_1_method_35_code 33 = .ok (.ishl, 1) := by decide +kernel
theorem d_CS_countTriedColours_34 : decode prog_1_method_35_code 34 = .ok (.ior, 1) := by decide +kernel
theorem d_CS_countTriedColours_35 : decode prog_1_method_35_code 35 = .ok (.istore_n 1, 1) := by decide +kernel
theorem d_CS_countTriedColours_36 : decode prog_1_method_35_code 36 = .ok (.iinc 2 1, 3) := by decide +kernel
theorem d_CS_countTriedColours_39 : decode prog_1_method_35_code 39 = .ok (.goto (-35), 3) := by decide +kernel
theorem d_CS_countTriedColours_42 : decode prog_1_method_35_code 42 = .ok (.iload_n 1, 1) := by decide +kernel
theorem d_CS_countTriedColours_43 : decode prog_1_method_35_code 43 = .ok (.invokestatic 207, 3) := by decide +kernel
theorem d_CS_countTriedColours_46 : decode prog_1_method_35_code 46 = .ok (.ireturn, 1) := by decide +kernel
abbrev wd_CS_countTriedColours (cI cJ cG cZ : ClassId) (a0 a0_net a0_painter a0_polynomial a0_listCounter a0_setFinder a0_takingApart a0_greedyRun a0_allowed a0_shown a0_shades a0_attempt a0_net_near a0_net_tail a0_net_head : Nat) (v0_net_nodes : Int32) (v0_net_arcCount : Int32) (v0_net_version : Int32) (w0_attempt : Nat → Int32) : va_W := [(a0, .inr (0, [.ref a0_net, .ref a0_painter, .ref a0_polynomial, .ref a0_listCounter, .ref a0_setFinder, .ref a0_takingApart, .ref a0_greedyRun, .ref a0_allowed, .ref a0_shown, .ref a0_shades, .ref a0_attempt])), (a0_net, .inr (1, [.ref a0_net_near, .ref a0_net_tail, .ref a0_net_head, .int v0_net_nodes, .int v0_net_arcCount, .int v0_net_version])), (a0_attempt, .inl (cI, 12, .inl w0_attempt))]
abbrev us_CS_countTriedColours : List Cond := .code y_CS_countTriedColours prog_1_method_35_code 3 (some .int) :: gtbl
abbrev rm_CS_countTriedColours : Room := { frames := 1, cells := 0, slots := 0, locals := 20 }
def m_CS_countTriedColours (F : Nat) (v0_net_nodes : Int32) (v0_net_arcCount : Int32) (v0_net_version : Int32) (w0_attempt : Nat → Int32) : Option (Int32) :=
  gL (fun (k_4 : (Int32 × Int32) → Option (Int32)) (z_4 : Int32 × Int32) => match z_4 with
  | (x1_1, x2_2) =>
  if v0_net_nodes ≤ x2_2 then (
    some (bitc x1_1)
  ) else (
    gC (inb x2_2 12) (
    if (w0_attempt x2_2.toNatClampNeg) = ((-1) : Int32) then (
      gB (x2_2 + 1) (fun x2_6 =>
      k_4 (x1_1, x2_6))
    ) else (
      gC (inb x2_2 12) (
      gB (x1_1 ||| ((1 : Int32) <<< ((w0_attempt x2_2.toNatClampNeg) &&& 31))) (fun x1_8 =>
      gB (x2_2 + 1) (fun x2_9 =>
      k_4 (x1_8, x2_9))))
    ))
  )
  ) F (0, 0)
set_option maxHeartbeats 4000000 in
set_option maxRecDepth 100000 in
theorem c_CS_countTriedColours (l : Launch) (dC : Nat → ClassId) (dI : Nat → Nat → Nat) (cI cJ cG cZ : ClassId) (a0 a0_net a0_painter a0_polynomial a0_listCounter a0_setFinder a0_takingApart a0_greedyRun a0_allowed a0_shown a0_shades a0_attempt a0_net_near a0_net_tail a0_net_head : Nat) (sz : Nat) (F : Nat) (v0_net_nodes : Int32) (v0_net_arcCount : Int32) (v0_net_version : Int32) (w0_attempt : Nat → Int32) (ret : Int32) (hm : m_CS_countTriedColours F v0_net_nodes v0_net_arcCount v0_net_version w0_attempt = some ret) : Met l y_CS_countTriedColours us_CS_countTriedColours rm_CS_countTriedColours (PcS (dC, dI) (tyL cI cJ cG cZ) [.ref a0] sz (wd_CS_countTriedColours cI cJ cG cZ a0 a0_net a0_painter a0_polynomial a0_listCounter a0_setFinder a0_takingApart a0_greedyRun a0_allowed a0_shown a0_shades a0_attempt a0_net_near a0_net_tail a0_net_head v0_net_nodes v0_net_arcCount v0_net_version w0_attempt)) (va_Qi (fun (r : Int32) (_ : Unit) => ret = r) (fun _ t => PoS (dC, dI) (tyL cI cJ cG cZ) (wd_CS_countTriedColours cI cJ cG cZ a0 a0_net a0_painter a0_polynomial a0_listCounter a0_setFinder a0_takingApart a0_greedyRun a0_allowed a0_shown a0_shades a0_attempt a0_net_near a0_net_tail a0_net_head v0_net_nodes v0_net_arcCount v0_net_version w0_attempt) (va_A (wd_CS_countTriedColours cI cJ cG cZ a0 a0_net a0_painter a0_polynomial a0_listCounter a0_setFinder a0_takingApart a0_greedyRun a0_allowed a0_shown a0_shades a0_attempt a0_net_near a0_net_tail a0_net_head v0_net_nodes v0_net_arcCount v0_net_version w0_attempt) sz) t) (va_A (wd_CS_countTriedColours cI cJ cG cZ a0 a0_net a0_painter a0_polynomial a0_listCounter a0_setFinder a0_takingApart a0_greedyRun a0_allowed a0_shown a0_shades a0_attempt a0_net_near a0_net_tail a0_net_head v0_net_nodes v0_net_arcCount v0_net_version w0_attempt) sz)) 0 0 (va_A (wd_CS_countTriedColours cI cJ cG cZ a0 a0_net a0_painter a0_polynomial a0_listCounter a0_setFinder a0_takingApart a0_greedyRun a0_allowed a0_shown a0_shades a0_attempt a0_net_near a0_net_tail a0_net_head v0_net_nodes v0_net_arcCount v0_net_version w0_attempt) sz) := by
  refine Met.ofW (cc := prog_1_method_35_code) (maxL := 3) (ret := (some .int)) (by decide) rfl ?_
  intro p e s m args below meth c s₁ B hml hv
  obtain ⟨rfl, hsz, hP, hK, hD0, hNw⟩ := hv
  have hx := B.exec
  have hb := B.bytes
  have hr := B.returns
  have htt : ∀ w ∈ gtbl, w.before _ s = true := fun w h => atoms_spec (ws := us_CS_countTriedColours) B.pre w (List.mem_cons_of_mem _ h)
  have hown : s.vm.findClass R_CS = some m.cls := findClass_of_methodNamed B.named
  have hlocks := B.notSynchronized
  subst hsz
  have hD := hD0.self (sz := s.heap.size)
  generalize hAe : va_A (wd_CS_countTriedColours cI cJ cG cZ a0 a0_net a0_painter a0_polynomial a0_listCounter a0_setFinder a0_takingApart a0_greedyRun a0_allowed a0_shown a0_shades a0_attempt a0_net_near a0_net_tail a0_net_head v0_net_nodes v0_net_arcCount v0_net_version w0_attempt) s.heap.size = A at hD ⊢
  have hA : ∀ q : Nat, s.heap.size ≤ q → A q := fun q h => by rw [← hAe]; exact Or.inr h
  clear hAe hD0
  have hS : va_S A s.heap s.heap [] := va_S.rf
  have hl := lv_entry ([.ref a0]) (n := 3) (Nat.le_of_ble_eq_true rfl)
  rw [lg_entry_eq]
  generalize (lg_sl ([.ref a0]) ++ List.replicate (3 - (lg_sl ([.ref a0])).length) Slot.unset).toArray = ls at hl ⊢
  have hl : lv_has ls 3 [(0, .ref a0)] := hl
  generalize hH : s.heap = H at hP ⊢
  have hS : va_S A s.heap H [] := hH ▸ hS
  generalize hLo : ([] : List Loc) = locs at hS ⊢
  clear hH hLo
  unfold m_CS_countTriedColours at hm
  refine lv_iconst (v := 0) hx hb d_CS_countTriedColours_0 (by decide) ?_
  refine lv_istore_n (lv' := [(1, .int 0), (0, .ref a0)]) hx hb d_CS_countTriedColours_1 rfl hl (by decide) rfl (fun ls hl => ?_)
  refine lv_iconst (v := 0) hx hb d_CS_countTriedColours_2 (by decide) ?_
  refine lv_istore_n (lv' := [(2, .int 0), (1, .int 0), (0, .ref a0)]) hx hb d_CS_countTriedColours_3 rfl hl (by decide) rfl (fun ls hl => ?_)
  refine gL_e (P := (fun (z_4 : Int32 × Int32) => ∀ (x1_1 : Int32), ∀ (x2_2 : Int32), z_4 = (x1_1, x2_2) → ∀ (ls : Array Slot) (H : Heap) (locs : List Loc), lv_has ls 3 [(0, .ref a0), (1, .int x1_1), (2, .int x2_2)] → va_P (dC, dI) vwCl (wd_CS_countTriedColours cI cJ cG cZ a0 a0_net a0_painter a0_polynomial a0_listCounter a0_setFinder a0_takingApart a0_greedyRun a0_allowed a0_shown a0_shades a0_attempt a0_net_near a0_net_tail a0_net_head v0_net_nodes v0_net_arcCount v0_net_version w0_attempt) H → va_D A (wd_CS_countTriedColours cI cJ cG cZ a0 a0_net a0_painter a0_polynomial a0_listCounter a0_setFinder a0_takingApart a0_greedyRun a0_allowed a0_shown a0_shades a0_attempt a0_net_near a0_net_tail a0_net_head v0_net_nodes v0_net_arcCount v0_net_version w0_attempt) → va_S A s.heap H locs → W p l e (headSpec us_CS_countTriedColours rm_CS_countTriedColours).room s m ([.ref a0] : List Value).toArray below meth c H locs 0 0 (MQ below (va_Qi (fun (r : Int32) (_ : Unit) => ret = r) (fun _ t => PoS (dC, dI) (tyL cI cJ cG cZ) (wd_CS_countTriedColours cI cJ cG cZ a0 a0_net a0_painter a0_polynomial a0_listCounter a0_setFinder a0_takingApart a0_greedyRun a0_allowed a0_shown a0_shades a0_attempt a0_net_near a0_net_tail a0_net_head v0_net_nodes v0_net_arcCount v0_net_version w0_attempt) A t) A) ([.ref a0] : List Value).toArray s 0 0 A) (F0 m 4 ls []))) hm (fun k_4 z_4 ih_4 hm => ?_) _ _ rfl ls H locs (lv_sub hl [2, 1, 0] rfl) hP hD hS
  intro x1_1 x2_2 hz ls H locs hl hP hD hS
  subst hz
  dsimp only at hm
  refine lv_iload_n hx hb d_CS_countTriedColours_4 rfl (lv_at hl 2 rfl) ?_
  refine lv_aload_n hx hb d_CS_countTriedColours_5 rfl (lv_at hl 0 rfl) ?_
  refine va_get (D := (dC, dI)) (ci := 0) (v := .ref a0_net) (C := R_CS) (T := T_CS) (N := 11) hx hb htt hin_CS hown hK hP 0 rfl rfl 0 (by decide) (htt _ kt_224) (fun _ h9 => h9) rfl d_CS_countTriedColours_6 ?_
  refine va_get (D := (dC, dI)) (ci := 1) (v := .int v0_net_nodes) (C := R_Net) (T := T_Net) (N := 6) hx hb htt hin_Net hown hK hP 1 rfl rfl 3 (by decide) (htt _ kt_46) (fun _ h9 => h9) rfl d_CS_countTriedColours_9 ?_
  refine lv_icmp_ge (tgt := 42) hx hb d_CS_countTriedColours_12 (by decide) (fun c_3 => ?_) (fun c_3 => ?_)
  · have hm := ite_t c_3 hm
    refine lv_iload_n hx hb d_CS_countTriedColours_42 rfl (lv_at hl 1 rfl) ?_
    refine gx_bit hx hb hml hown htt kt_428 hK hNw hP hD hS hA hl.1 (lv_room (Nat.le_of_ble_eq_true rfl)) (Nat.le_of_ble_eq_true rfl) (Nat.le_of_ble_eq_true rfl) (Nat.zero_le _) (Nat.zero_le _) d_CS_countTriedColours_43 (fun H locs hP hD hS => ?_)
    cases hm
    exact W.iret hx hb hr (fun t ht hW => ⟨⟨_, (), rfl, rfl, by rw [ht]; exact hP, va_K.moved hW.alike hK, hD⟩, hS.F ht⟩) hS.2.2 d_CS_countTriedColours_46
  · have hm := ite_f c_3 hm
    refine lv_aload_n hx hb d_CS_countTriedColours_15 rfl (lv_at hl 0 rfl) ?_
    refine va_get (D := (dC, dI)) (ci := 0) (v := .ref a0_attempt) (C := R_CS) (T := T_CS) (N := 11) hx hb htt hin_CS hown hK hP 0 rfl rfl 10 (by decide) (htt _ kt_234) (fun _ h9 => h9) rfl d_CS_countTriedColours_16 ?_
    refine lv_iload_n hx hb d_CS_countTriedColours_19 rfl (lv_at hl 2 rfl) ?_
    obtain ⟨hi_4, hm⟩ := gC_e hm
    refine va_iald hx hb hK hP 2 0 rfl rfl (inb_vp hi_4) d_CS_countTriedColours_20 ?_
    refine lv_iconst (v := (-1)) hx hb d_CS_countTriedColours_21 (by decide) ?_
    refine lv_icmp_eq (tgt := 36) hx hb d_CS_countTriedColours_22 (by decide) (fun c_5 => ?_) (fun c_5 => ?_)
    · have hm := ite_t c_5 hm
      obtain ⟨x2_6, ex2_6⟩ : ∃ y : Int32, y = x2_2 + 1 := ⟨_, rfl⟩
      have hm := gB_at ex2_6 hm
      refine lv_iinc (v := x2_6) (lv' := [(2, .int x2_6), (0, .ref a0), (1, .int x1_1)]) hx hb d_CS_countTriedColours_36 hl (k := 2) rfl (by rw [ex2_6]; rfl) (by decide) rfl (fun ls hl => ?_)
      refine lv_goto (tgt := 4) hx hb d_CS_countTriedColours_39 (by decide) ?_
      exact ih_4 _ hm _ _ rfl ls H locs (lv_sub hl [1, 2, 0] rfl) hP hD hS
    · have hm := ite_f c_5 hm
      refine lv_iload_n hx hb d_CS_countTriedColours_25 rfl (lv_at hl 1 rfl) ?_
      refine lv_iconst (v := 1) hx hb d_CS_countTriedColours_26 (by decide) ?_
      refine lv_aload_n hx hb d_CS_countTriedColours_27 rfl (lv_at hl 0 rfl) ?_
      refine va_get (D := (dC, dI)) (ci := 0) (v := .ref a0_attempt) (C := R_CS) (T := T_CS) (N := 11) hx hb htt hin_CS hown hK hP 0 rfl rfl 10 (by decide) (htt _ kt_234) (fun _ h9 => h9) rfl d_CS_countTriedColours_28 ?_
      refine lv_iload_n hx hb d_CS_countTriedColours_31 rfl (lv_at hl 2 rfl) ?_
      obtain ⟨hi_7, hm⟩ := gC_e hm
      refine va_iald hx hb hK hP 2 0 rfl rfl (inb_vp hi_7) d_CS_countTriedColours_32 ?_
      refine lv_ishl hx hb d_CS_countTriedColours_33 ?_
      refine lv_ior hx hb d_CS_countTriedColours_34 ?_
      refine lv_topi (fun x1_8 ex1_8 => ?_)
      have hm := gB_at ex1_8 hm
      refine lv_istore_n (lv' := [(1, .int x1_8), (0, .ref a0), (2, .int x2_2)]) hx hb d_CS_countTriedColours_35 rfl hl (by decide) rfl (fun ls hl => ?_)
      obtain ⟨x2_9, ex2_9⟩ : ∃ y : Int32, y = x2_2 + 1 := ⟨_, rfl⟩
      have hm := gB_at ex2_9 hm
      refine lv_iinc (v := x2_9) (lv' := [(2, .int x2_9), (1, .int x1_8), (0, .ref a0)]) hx hb d_CS_countTriedColours_36 hl (k := 2) rfl (by rw [ex2_9]; rfl) (by decide) rfl (fun ls hl => ?_)
      refine lv_goto (tgt := 4) hx hb d_CS_countTriedColours_39 (by decide) ?_
      exact ih_4 _ hm _ _ rfl ls H locs (lv_sub hl [2, 1, 0] rfl) hP hD hS
theorem d_CS_told_0 : decode prog_1_method_27_code 0 = .ok (.iload_n 1, 1) := by decide +kernel
theorem d_CS_told_1 : decode prog_1_method_27_code 1 = .ok (.tableswitch 72 0 4 #[35, 43, 51, 59, 67], 35) := by decide +kernel
theorem d_CS_told_36 : decode prog_1_method_27_code 36 = .ok (.aload_n 0, 1) := by decide +kernel
theorem d_CS_told_37 : decode prog_1_method_27_code 37 = .ok (.getfield 12, 3) := by decide +kernel
theorem d_CS_told_40 : decode prog_1_method_27_code 40 = .ok (.getfield 77, 3) := by decide +kernel
theorem d_CS_told_43 : decode prog_1_method_27_code 43 = .ok (.ireturn, 1) := by decide +kernel
theorem d_CS_told_44 : decode prog_1_method_27_code 44 = .ok (.aload_n 0, 1) := by decide +kernel
theorem d_CS_told_45 : decode prog_1_method_27_code 45 = .ok (.getfield 12, 3) := by decide +kernel
theorem d_CS_told_48 : decode prog_1_method_27_code 48 = .ok (.getfield 89, 3) := by decide +kernel
theorem d_CS_told_51 : decode prog_1_method_27_code 51 = .ok (.ireturn, 1) := by decide +kernel
theorem d_CS_told_52 : decode prog_1_method_27_code 52 = .ok (.aload_n 0, 1) := by decide +kernel
theorem d_CS_told_53 : decode prog_1_method_27_code 53 = .ok (.getfield 12, 3) := by decide +kernel
theorem d_CS_told_56 : decode prog_1_method_27_code 56 = .ok (.invokevirtual 151, 3) := by decide +kernel
theorem d_CS_told_59 : decode prog_1_method_27_code 59 = .ok (.ireturn, 1) := by decide +kernel
theorem d_CS_told_60 : decode prog_1_method_27_code 60 = .ok (.aload_n 0, 1) := by decide +kernel
theorem d_CS_told_61 : decode prog_1_method_27_code 61 = .ok (.getfield 12, 3) := by decide +kernel
theorem d_CS_told_64 : decode prog_1_method_27_code 64 = .ok (.invokevirtual 212, 3) := by decide +kernel
theorem d_CS_told_67 : decode prog_1_method_27_code 67 = .ok (.ireturn, 1) := by decide +kernel
theorem d_CS_told_68 : decode prog_1_method_27_code 68 = .ok (.aload_n 0, 1) := by decide +kernel
theorem d_CS_told_69 : decode prog_1_method_27_code 69 = .ok (.invokevirtual 215, 3) := by decide +kernel
theorem d_CS_told_72 : decode prog_1_method_27_code 72 = .ok (.ireturn, 1) := by decide +kernel
theorem d_CS_told_73 : decode prog_1_method_27_code 73 = .ok (.iconst (-1), 1) := by decide +kernel
theorem d_CS_told_74 : decode prog_1_method_27_code 74 = .ok (.ireturn, 1) := by decide +kernel
abbrev wd_CS_told (cI cJ cG cZ : ClassId) (a0 a0_net a0_painter a0_polynomial a0_listCounter a0_setFinder a0_takingApart a0_greedyRun a0_allowed a0_shown a0_shades a0_attempt a0_net_near a0_net_tail a0_net_head : Nat) (v0_net_nodes : Int32) (v0_net_arcCount : Int32) (v0_net_version : Int32) (w0_net_near : Nat → Int32) (w0_attempt : Nat → Int32) : va_W := [(a0, .inr (0, [.ref a0_net, .ref a0_painter, .ref a0_polynomial, .ref a0_listCounter, .ref a0_setFinder, .ref a0_takingApart, .ref a0_greedyRun, .ref a0_allowed, .ref a0_shown, .ref a0_shades, .ref a0_attempt])), (a0_net, .inr (1, [.ref a0_net_near, .ref a0_net_tail, .ref a0_net_head, .int v0_net_nodes, .int v0_net_arcCount, .int v0_net_version])), (a0_net_near, .inl (cI, 12, .inl w0_net_near)), (a0_attempt, .inl (cI, 12, .inl w0_attempt))]
abbrev us_CS_told : List Cond := .code y_CS_told prog_1_method_27_code 2 (some .int) :: gtbl
abbrev rm_CS_told : Room := { frames := 2, cells := 0, slots := 0, locals := 50 }
def m_CS_told (F : Nat) (v0_net_nodes : Int32) (v0_net_arcCount : Int32) (v0_net_version : Int32) (w0_net_near : Nat → Int32) (w0_attempt : Nat → Int32) (p1 : Int32) : Option (Int32) :=
  if p1 = 0 then (
    some v0_net_nodes
  ) else (
  if p1 = 1 then (
    some v0_net_arcCount
  ) else (
  if p1 = 2 then (
    gM (m_Net_mostNear F v0_net_nodes v0_net_arcCount v0_net_version w0_net_near) (fun q_4 =>
    some q_4)
  ) else (
  if p1 = 3 then (
    gM (m_Net_countParts F v0_net_nodes v0_net_arcCount v0_net_version w0_net_near) (fun q_8 =>
    some q_8)
  ) else (
  if p1 = 4 then (
    gM (m_CS_countTriedColours F v0_net_nodes v0_net_arcCount v0_net_version w0_attempt) (fun q_12 =>
    some q_12)
  ) else (
  some (-1)
  )))))
set_option maxHeartbeats 4000000 in
set_option maxRecDepth 100000 in
theorem c_CS_told (l : Launch) (dC : Nat → ClassId) (dI : Nat → Nat → Nat) (cI cJ cG cZ : ClassId) (a0 a0_net a0_painter a0_polynomial a0_listCounter a0_setFinder a0_takingApart a0_greedyRun a0_allowed a0_shown a0_shades a0_attempt a0_net_near a0_net_tail a0_net_head : Nat) (sz : Nat) (F : Nat) (v0_net_nodes : Int32) (v0_net_arcCount : Int32) (v0_net_version : Int32) (w0_net_near : Nat → Int32) (w0_attempt : Nat → Int32) (p1 : Int32) (ret : Int32) (hm : m_CS_told F v0_net_nodes v0_net_arcCount v0_net_version w0_net_near w0_attempt p1 = some ret) : Met l y_CS_told us_CS_told rm_CS_told (PcS (dC, dI) (tyL cI cJ cG cZ) [.ref a0, .int p1] sz (wd_CS_told cI cJ cG cZ a0 a0_net a0_painter a0_polynomial a0_listCounter a0_setFinder a0_takingApart a0_greedyRun a0_allowed a0_shown a0_shades a0_attempt a0_net_near a0_net_tail a0_net_head v0_net_nodes v0_net_arcCount v0_net_version w0_net_near w0_attempt)) (va_Qi (fun (r : Int32) (_ : Unit) => ret = r) (fun _ t => PoS (dC, dI) (tyL cI cJ cG cZ) (wd_CS_told cI cJ cG cZ a0 a0_net a0_painter a0_polynomial a0_listCounter a0_setFinder a0_takingApart a0_greedyRun a0_allowed a0_shown a0_shades a0_attempt a0_net_near a0_net_tail a0_net_head v0_net_nodes v0_net_arcCount v0_net_version w0_net_near w0_attempt) (va_A (wd_CS_told cI cJ cG cZ a0 a0_net a0_painter a0_polynomial a0_listCounter a0_setFinder a0_takingApart a0_greedyRun a0_allowed a0_shown a0_shades a0_attempt a0_net_near a0_net_tail a0_net_head v0_net_nodes v0_net_arcCount v0_net_version w0_net_near w0_attempt) sz) t) (va_A (wd_CS_told cI cJ cG cZ a0 a0_net a0_painter a0_polynomial a0_listCounter a0_setFinder a0_takingApart a0_greedyRun a0_allowed a0_shown a0_shades a0_attempt a0_net_near a0_net_tail a0_net_head v0_net_nodes v0_net_arcCount v0_net_version w0_net_near w0_attempt) sz)) 0 0 (va_A (wd_CS_told cI cJ cG cZ a0 a0_net a0_painter a0_polynomial a0_listCounter a0_setFinder a0_takingApart a0_greedyRun a0_allowed a0_shown a0_shades a0_attempt a0_net_near a0_net_tail a0_net_head v0_net_nodes v0_net_arcCount v0_net_version w0_net_near w0_attempt) sz) := by
  refine Met.ofW (cc := prog_1_method_27_code) (maxL := 2) (ret := (some .int)) (by decide) rfl ?_
  intro p e s m args below meth c s₁ B hml hv
  obtain ⟨rfl, hsz, hP, hK, hD0, hNw⟩ := hv
  have hx := B.exec
  have hb := B.bytes
  have hr := B.returns
  have htt : ∀ w ∈ gtbl, w.before _ s = true := fun w h => atoms_spec (ws := us_CS_told) B.pre w (List.mem_cons_of_mem _ h)
  have hown : s.vm.findClass R_CS = some m.cls := findClass_of_methodNamed B.named
  have hlocks := B.notSynchronized
  subst hsz
  have hD := hD0.self (sz := s.heap.size)
  generalize hAe : va_A (wd_CS_told cI cJ cG cZ a0 a0_net a0_painter a0_polynomial a0_listCounter a0_setFinder a0_takingApart a0_greedyRun a0_allowed a0_shown a0_shades a0_attempt a0_net_near a0_net_tail a0_net_head v0_net_nodes v0_net_arcCount v0_net_version w0_net_near w0_attempt) s.heap.size = A at hD ⊢
  have hA : ∀ q : Nat, s.heap.size ≤ q → A q := fun q h => by rw [← hAe]; exact Or.inr h
  clear hAe hD0
  have hS : va_S A s.heap s.heap [] := va_S.rf
  have hl := lv_entry ([.ref a0, .int p1]) (n := 2) (Nat.le_of_ble_eq_true rfl)
  rw [lg_entry_eq]
  generalize (lg_sl ([.ref a0, .int p1]) ++ List.replicate (2 - (lg_sl ([.ref a0, .int p1])).length) Slot.unset).toArray = ls at hl ⊢
  have hl : lv_has ls 2 [(0, .ref a0), (1, .int p1)] := hl
  generalize hH : s.heap = H at hP ⊢
  have hS : va_S A s.heap H [] := hH ▸ hS
  generalize hLo : ([] : List Loc) = locs at hS ⊢
  clear hH hLo
  unfold m_CS_told at hm
  refine lv_iload_n hx hb d_CS_told_0 rfl (lv_at hl 1 rfl) ?_
  by_cases c_1 : p1 = 0
  · have hm := ite_t c_1 hm
    refine lv_tableIn (tgt := 36) hx hb d_CS_told_1 (by rw [c_1]; decide) (by rw [c_1]; decide) (by rw [c_1]; rfl) (by decide) ?_
    refine lv_aload_n hx hb d_CS_told_36 rfl (lv_at hl 0 rfl) ?_
    refine va_get (D := (dC, dI)) (ci := 0) (v := .ref a0_net) (C := R_CS) (T := T_CS) (N := 11) hx hb htt hin_CS hown hK hP 0 rfl rfl 0 (by decide) (htt _ kt_224) (fun _ h9 => h9) rfl d_CS_told_37 ?_
    refine va_get (D := (dC, dI)) (ci := 1) (v := .int v0_net_nodes) (C := R_Net) (T := T_Net) (N := 6) hx hb htt hin_Net hown hK hP 1 rfl rfl 3 (by decide) (htt _ kt_46) (fun _ h9 => h9) rfl d_CS_told_40 ?_
    cases hm
    exact W.iret hx hb hr (fun t ht hW => ⟨⟨_, (), rfl, rfl, by rw [ht]; exact hP, va_K.moved hW.alike hK, hD⟩, hS.F ht⟩) hS.2.2 d_CS_told_43
  have hm := ite_f c_1 hm
  by_cases c_2 : p1 = 1
  · have hm := ite_t c_2 hm
    refine lv_tableIn (tgt := 44) hx hb d_CS_told_1 (by rw [c_2]; decide) (by rw [c_2]; decide) (by rw [c_2]; rfl) (by decide) ?_
    refine lv_aload_n hx hb d_CS_told_44 rfl (lv_at hl 0 rfl) ?_
    refine va_get (D := (dC, dI)) (ci := 0) (v := .ref a0_net) (C := R_CS) (T := T_CS) (N := 11) hx hb htt hin_CS hown hK hP 0 rfl rfl 0 (by decide) (htt _ kt_224) (fun _ h9 => h9) rfl d_CS_told_45 ?_
    refine va_get (D := (dC, dI)) (ci := 1) (v := .int v0_net_arcCount) (C := R_Net) (T := T_Net) (N := 6) hx hb htt hin_Net hown hK hP 1 rfl rfl 4 (by decide) (htt _ kt_53) (fun _ h9 => h9) rfl d_CS_told_48 ?_
    cases hm
    exact W.iret hx hb hr (fun t ht hW => ⟨⟨_, (), rfl, rfl, by rw [ht]; exact hP, va_K.moved hW.alike hK, hD⟩, hS.F ht⟩) hS.2.2 d_CS_told_51
  have hm := ite_f c_2 hm
  by_cases c_3 : p1 = 2
  · have hm := ite_t c_3 hm
    refine lv_tableIn (tgt := 52) hx hb d_CS_told_1 (by rw [c_3]; decide) (by rw [c_3]; decide) (by rw [c_3]; rfl) (by decide) ?_
    refine lv_aload_n hx hb d_CS_told_52 rfl (lv_at hl 0 rfl) ?_
    refine va_get (D := (dC, dI)) (ci := 0) (v := .ref a0_net) (C := R_CS) (T := T_CS) (N := 11) hx hb htt hin_CS hown hK hP 0 rfl rfl 0 (by decide) (htt _ kt_224) (fun _ h9 => h9) rfl d_CS_told_53 ?_
    obtain ⟨q_4, hc_5, hm⟩ := gM_e hm
    have hPc : va_P (dC, dI) vwCl (wd_Net_mostNear cI cJ cG cZ a0_net a0_net_near a0_net_tail a0_net_head v0_net_nodes v0_net_arcCount v0_net_version w0_net_near) H := hP.sub [1, 2] rfl
    have hDc : va_D A (wd_Net_mostNear cI cJ cG cZ a0_net a0_net_near a0_net_tail a0_net_head v0_net_nodes v0_net_arcCount v0_net_version w0_net_near) := hD.sub [1, 2] (by decide) rfl
    have hFc : ∀ q, va_A (wd_Net_mostNear cI cJ cG cZ a0_net a0_net_near a0_net_tail a0_net_head v0_net_nodes v0_net_arcCount v0_net_version w0_net_near) H.size q → A q := va_free hD hS hA [1, 2] rfl
    refine va_calli (va_runV (As := []) (rest := []) ⟨hx, hb, hml, hown, htt⟩ (c_Net_mostNear l dC dI cI cJ cG cZ a0_net a0_net_near a0_net_tail a0_net_head H.size F v0_net_nodes v0_net_arcCount v0_net_version w0_net_near q_4 hc_5) (cwV 0 htt (gdV kt_638 kt_639 kt_640 kt_2 kt_641) rfl rfl rfl (by decide +kernel) ⟨(Nat.le_of_ble_eq_true rfl), (Nat.le_of_ble_eq_true rfl)⟩) ⟨PcS_blind, va_recv hK hPc (ci := 1) (q0 := 0) rfl rfl, PcS_in hPc hK hDc hNw⟩ rfl rfl hl.1 rfl (lv_room (Nat.le_of_ble_eq_true rfl)) d_CS_told_56 ⟨Nat.zero_le _, Nat.zero_le _⟩) hS (fun q _ h => hFc q h) hFc (fun r_6 u t H1 locs ht hvm hw hB hz1 hk1 hS => ?_)
    obtain ⟨hP1, hK1, hD1⟩ := hB
    rw [ht] at hP1
    subst hw
    obtain ⟨hP, hD⟩ := va_join (wr := [(a0, .inr (0, [.ref a0_net, .ref a0_painter, .ref a0_polynomial, .ref a0_listCounter, .ref a0_setFinder, .ref a0_takingApart, .ref a0_greedyRun, .ref a0_allowed, .ref a0_shown, .ref a0_shades, .ref a0_attempt])), (a0_attempt, .inl (cI, 12, .inl w0_attempt))]) (w1 := (wd_Net_mostNear cI cJ cG cZ a0_net a0_net_near a0_net_tail a0_net_head v0_net_nodes v0_net_arcCount v0_net_version w0_net_near)) hP hD [1, 2] [0, 3] rfl rfl (by decide) (by decide) hk1 hFc hP1 hD1
    have hP : va_P (dC, dI) vwCl (wd_CS_told cI cJ cG cZ a0 a0_net a0_painter a0_polynomial a0_listCounter a0_setFinder a0_takingApart a0_greedyRun a0_allowed a0_shown a0_shades a0_attempt a0_net_near a0_net_tail a0_net_head v0_net_nodes v0_net_arcCount v0_net_version w0_net_near w0_attempt) H1 := hP.sub [0, 2, 3, 1] rfl
    have hD : va_D A (wd_CS_told cI cJ cG cZ a0 a0_net a0_painter a0_polynomial a0_listCounter a0_setFinder a0_takingApart a0_greedyRun a0_allowed a0_shown a0_shades a0_attempt a0_net_near a0_net_tail a0_net_head v0_net_nodes v0_net_arcCount v0_net_version w0_net_near w0_attempt) := hD.sub [0, 2, 3, 1] (by decide) rfl
    clear hP1 hK1 hD1 hk1 hPc hDc hFc ht hvm hz1
    generalize H1 = H at hP hS ⊢
    cases hm
    exact W.iret hx hb hr (fun t ht hW => ⟨⟨_, (), rfl, rfl, by rw [ht]; exact hP, va_K.moved hW.alike hK, hD⟩, hS.F ht⟩) hS.2.2 d_CS_told_59
  have hm := ite_f c_3 hm
  by_cases c_7 : p1 = 3
  · have hm := ite_t c_7 hm
    refine lv_tableIn (tgt := 60) hx hb d_CS_told_1 (by rw [c_7]; decide) (by rw [c_7]; decide) (by rw [c_7]; rfl) (by decide) ?_
    refine lv_aload_n hx hb d_CS_told_60 rfl (lv_at hl 0 rfl) ?_
    refine va_get (D := (dC, dI)) (ci := 0) (v := .ref a0_net) (C := R_CS) (T := T_CS) (N := 11) hx hb htt hin_CS hown hK hP 0 rfl rfl 0 (by decide) (htt _ kt_224) (fun _ h9 => h9) rfl d_CS_told_61 ?_
    obtain ⟨q_8, hc_9, hm⟩ := gM_e hm
    have hPc : va_P (dC, dI) vwCl (wd_Net_countParts cI cJ cG cZ a0_net a0_net_near a0_net_tail a0_net_head v0_net_nodes v0_net_arcCount v0_net_version w0_net_near) H := hP.sub [1, 2] rfl
    have hDc : va_D A (wd_Net_countParts cI cJ cG cZ a0_net a0_net_near a0_net_tail a0_net_head v0_net_nodes v0_net_arcCount v0_net_version w0_net_near) := hD.sub [1, 2] (by decide) rfl
    have hFc : ∀ q, va_A (wd_Net_countParts cI cJ cG cZ a0_net a0_net_near a0_net_tail a0_net_head v0_net_nodes v0_net_arcCount v0_net_version w0_net_near) H.size q → A q := va_free hD hS hA [1, 2] rfl
    refine va_calli (va_runV (As := []) (rest := []) ⟨hx, hb, hml, hown, htt⟩ (c_Net_countParts l dC dI cI cJ cG cZ a0_net a0_net_near a0_net_tail a0_net_head H.size F v0_net_nodes v0_net_arcCount v0_net_version w0_net_near q_8 hc_9) (cwV 0 htt (gdV kt_646 kt_647 kt_648 kt_2 kt_649) rfl rfl rfl (by decide +kernel) ⟨(Nat.le_of_ble_eq_true rfl), (Nat.le_of_ble_eq_true rfl)⟩) ⟨PcS_blind, va_recv hK hPc (ci := 1) (q0 := 0) rfl rfl, PcS_in hPc hK hDc hNw⟩ rfl rfl hl.1 rfl (lv_room (Nat.le_of_ble_eq_true rfl)) d_CS_told_64 ⟨Nat.zero_le _, Nat.zero_le _⟩) hS (fun q _ h => hFc q h) hFc (fun r_10 u t H1 locs ht hvm hw hB hz1 hk1 hS => ?_)
    obtain ⟨hP1, hK1, hD1⟩ := hB
    rw [ht] at hP1
    subst hw
    obtain ⟨hP, hD⟩ := va_join (wr := [(a0, .inr (0, [.ref a0_net, .ref a0_painter, .ref a0_polynomial, .ref a0_listCounter, .ref a0_setFinder, .ref a0_takingApart, .ref a0_greedyRun, .ref a0_allowed, .ref a0_shown, .ref a0_shades, .ref a0_attempt])), (a0_attempt, .inl (cI, 12, .inl w0_attempt))]) (w1 := (wd_Net_countParts cI cJ cG cZ a0_net a0_net_near a0_net_tail a0_net_head v0_net_nodes v0_net_arcCount v0_net_version w0_net_near)) hP hD [1, 2] [0, 3] rfl rfl (by decide) (by decide) hk1 hFc hP1 hD1
    have hP : va_P (dC, dI) vwCl (wd_CS_told cI cJ cG cZ a0 a0_net a0_painter a0_polynomial a0_listCounter a0_setFinder a0_takingApart a0_greedyRun a0_allowed a0_shown a0_shades a0_attempt a0_net_near a0_net_tail a0_net_head v0_net_nodes v0_net_arcCount v0_net_version w0_net_near w0_attempt) H1 := hP.sub [0, 2, 3, 1] rfl
    have hD : va_D A (wd_CS_told cI cJ cG cZ a0 a0_net a0_painter a0_polynomial a0_listCounter a0_setFinder a0_takingApart a0_greedyRun a0_allowed a0_shown a0_shades a0_attempt a0_net_near a0_net_tail a0_net_head v0_net_nodes v0_net_arcCount v0_net_version w0_net_near w0_attempt) := hD.sub [0, 2, 3, 1] (by decide) rfl
    clear hP1 hK1 hD1 hk1 hPc hDc hFc ht hvm hz1
    generalize H1 = H at hP hS ⊢
    cases hm
    exact W.iret hx hb hr (fun t ht hW => ⟨⟨_, (), rfl, rfl, by rw [ht]; exact hP, va_K.moved hW.alike hK, hD⟩, hS.F ht⟩) hS.2.2 d_CS_told_67
  have hm := ite_f c_7 hm
  by_cases c_11 : p1 = 4
  · have hm := ite_t c_11 hm
    refine lv_tableIn (tgt := 68) hx hb d_CS_told_1 (by rw [c_11]; decide) (by rw [c_11]; decide) (by rw [c_11]; rfl) (by decide) ?_
    refine lv_aload_n hx hb d_CS_told_68 rfl (lv_at hl 0 rfl) ?_
    obtain ⟨q_12, hc_13, hm⟩ := gM_e hm
    have hPc : va_P (dC, dI) vwCl (wd_CS_countTriedColours cI cJ cG cZ a0 a0_net a0_painter a0_polynomial a0_listCounter a0_setFinder a0_takingApart a0_greedyRun a0_allowed a0_shown a0_shades a0_attempt a0_net_near a0_net_tail a0_net_head v0_net_nodes v0_net_arcCount v0_net_version w0_attempt) H := hP.sub [0, 1, 3] rfl
    have hDc : va_D A (wd_CS_countTriedColours cI cJ cG cZ a0 a0_net a0_painter a0_polynomial a0_listCounter a0_setFinder a0_takingApart a0_greedyRun a0_allowed a0_shown a0_shades a0_attempt a0_net_near a0_net_tail a0_net_head v0_net_nodes v0_net_arcCount v0_net_version w0_attempt) := hD.sub [0, 1, 3] (by decide) rfl
    have hFc : ∀ q, va_A (wd_CS_countTriedColours cI cJ cG cZ a0 a0_net a0_painter a0_polynomial a0_listCounter a0_setFinder a0_takingApart a0_greedyRun a0_allowed a0_shown a0_shades a0_attempt a0_net_near a0_net_tail a0_net_head v0_net_nodes v0_net_arcCount v0_net_version w0_attempt) H.size q → A q := va_free hD hS hA [0, 1, 3] rfl
    refine va_calli (va_runV (As := []) (rest := []) ⟨hx, hb, hml, hown, htt⟩ (c_CS_countTriedColours l dC dI cI cJ cG cZ a0 a0_net a0_painter a0_polynomial a0_listCounter a0_setFinder a0_takingApart a0_greedyRun a0_allowed a0_shown a0_shades a0_attempt a0_net_near a0_net_tail a0_net_head H.size F v0_net_nodes v0_net_arcCount v0_net_version w0_attempt q_12 hc_13) (cwV 0 htt (gdV kt_652 kt_654 kp_40 kt_1 kt_655) rfl rfl rfl (by decide +kernel) ⟨(Nat.le_of_ble_eq_true rfl), (Nat.le_of_ble_eq_true rfl)⟩) ⟨PcS_blind, va_recv hK hPc (ci := 0) (q0 := 0) rfl rfl, PcS_in hPc hK hDc hNw⟩ rfl rfl hl.1 rfl (lv_room (Nat.le_of_ble_eq_true rfl)) d_CS_told_69 ⟨Nat.zero_le _, Nat.zero_le _⟩) hS (fun q _ h => hFc q h) hFc (fun r_14 u t H1 locs ht hvm hw hB hz1 hk1 hS => ?_)
    obtain ⟨hP1, hK1, hD1⟩ := hB
    rw [ht] at hP1
    subst hw
    obtain ⟨hP, hD⟩ := va_join (wr := [(a0_net_near, .inl (cI, 12, .inl w0_net_near))]) (w1 := (wd_CS_countTriedColours cI cJ cG cZ a0 a0_net a0_painter a0_polynomial a0_listCounter a0_setFinder a0_takingApart a0_greedyRun a0_allowed a0_shown a0_shades a0_attempt a0_net_near a0_net_tail a0_net_head v0_net_nodes v0_net_arcCount v0_net_version w0_attempt)) hP hD [0, 1, 3] [2] rfl rfl (by decide) (by decide) hk1 hFc hP1 hD1
    have hP : va_P (dC, dI) vwCl (wd_CS_told cI cJ cG cZ a0 a0_net a0_painter a0_polynomial a0_listCounter a0_setFinder a0_takingApart a0_greedyRun a0_allowed a0_shown a0_shades a0_attempt a0_net_near a0_net_tail a0_net_head v0_net_nodes v0_net_arcCount v0_net_version w0_net_near w0_attempt) H1 := hP.sub [1, 2, 0, 3] rfl
    have hD : va_D A (wd_CS_told cI cJ cG cZ a0 a0_net a0_painter a0_polynomial a0_listCounter a0_setFinder a0_takingApart a0_greedyRun a0_allowed a0_shown a0_shades a0_attempt a0_net_near a0_net_tail a0_net_head v0_net_nodes v0_net_arcCount v0_net_version w0_net_near w0_attempt) := hD.sub [1, 2, 0, 3] (by decide) rfl
    clear hP1 hK1 hD1 hk1 hPc hDc hFc ht hvm hz1
    generalize H1 = H at hP hS ⊢
    cases hm
    exact W.iret hx hb hr (fun t ht hW => ⟨⟨_, (), rfl, rfl, by rw [ht]; exact hP, va_K.moved hW.alike hK, hD⟩, hS.F ht⟩) hS.2.2 d_CS_told_72
  have hm := ite_f c_11 hm
  have hne : p1.toInt < 0 ∨ 4 < p1.toInt := by
    have nc_1 := lv_neT (a := 0) c_1 rfl
    have nc_2 := lv_neT (a := 1) c_2 rfl
    have nc_3 := lv_neT (a := 2) c_3 rfl
    have nc_7 := lv_neT (a := 3) c_7 rfl
    have nc_11 := lv_neT (a := 4) c_11 rfl
    omega
  refine lv_tableOut (tgt := 73) hx hb d_CS_told_1 hne (by decide) ?_
  refine lv_iconst (v := (-1)) hx hb d_CS_told_73 (by decide) ?_
  cases hm
  exact W.iret hx hb hr (fun t ht hW => ⟨⟨_, (), rfl, rfl, by rw [ht]; exact hP, va_K.moved hW.alike hK, hD⟩, hS.F ht⟩) hS.2.2 d_CS_told_74
