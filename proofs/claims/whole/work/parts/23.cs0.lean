theorem d_CS_node_0 : decode prog_1_method_2_code 0 = .ok (.aload_n 0, 1) := by decide +kernel
theorem d_CS_node_1 : decode prog_1_method_2_code 1 = .ok (.getfield 12, 3) := by decide +kernel
theorem d_CS_node_4 : decode prog_1_method_2_code 4 = .ok (.getfield 77, 3) := by decide +kernel
theorem d_CS_node_7 : decode prog_1_method_2_code 7 = .ok (.bipush 12, 2) := by decide +kernel
theorem d_CS_node_9 : decode prog_1_method_2_code 9 = .ok (.if_icmp .ge 13, 3) := by decide +kernel
theorem d_CS_node_12 : decode prog_1_method_2_code 12 = .ok (.aload_n 0, 1) := by decide +kernel
theorem d_CS_node_13 : decode prog_1_method_2_code 13 = .ok (.getfield 12, 3) := by decide +kernel
theorem d_CS_node_16 : decode prog_1_method_2_code 16 = .ok (.invokevirtual 81, 3) := by decide +kernel
theorem d_CS_node_19 : decode prog_1_method_2_code 19 = .ok (.goto 4, 3) := by decide +kernel
theorem d_CS_node_22 : decode prog_1_method_2_code 22 = .ok (.iconst (-1), 1) := by decide +kernel
theorem d_CS_node_23 : decode prog_1_method_2_code 23 = .ok (.ireturn, 1) := by decide +kernel
abbrev wd_CS_node (cI cJ cG cZ : ClassId) (a0 a0_net a0_painter a0_polynomial a0_listCounter a0_setFinder a0_takingApart a0_greedyRun a0_allowed a0_shown a0_shades a0_attempt a0_net_near a0_net_tail a0_net_head : Nat) (v0_net_nodes : Int32) (v0_net_arcCount : Int32) (v0_net_version : Int32) : va_W := [(a0, .inr (0, [.ref a0_net, .ref a0_painter, .ref a0_polynomial, .ref a0_listCounter, .ref a0_setFinder, .ref a0_takingApart, .ref a0_greedyRun, .ref a0_allowed, .ref a0_shown, .ref a0_shades, .ref a0_attempt])), (a0_net, .inr (1, [.ref a0_net_near, .ref a0_net_tail, .ref a0_net_head, .int v0_net_nodes, .int v0_net_arcCount, .int v0_net_version]))]
abbrev us_CS_node : List Cond := .code y_CS_node prog_1_method_2_code 1 (some .int) :: gtbl
abbrev rm_CS_node : Room := { frames := 1, cells := 0, slots := 0, locals := 20 }
def m_CS_node (F : Nat) (v0_net_nodes : Int32) (v0_net_arcCount : Int32) (v0_net_version : Int32) : Option (Int32 × Int32 × Int32) :=
  if (12 : Int32) ≤ v0_net_nodes then (
    some ((-1), v0_net_nodes, v0_net_version)
  ) else (
    gM (m_Net_addNode F v0_net_nodes v0_net_arcCount v0_net_version) (fun (z_6 : Int32 × Int32 × Int32) => match z_6 with
    | (q_2, v0_net_nodes_3, v0_net_version_4) =>
    some (q_2, v0_net_nodes_3, v0_net_version_4))
  )
set_option maxHeartbeats 4000000 in
set_option maxRecDepth 100000 in
theorem c_CS_node (l : Launch) (dC : Nat → ClassId) (dI : Nat → Nat → Nat) (cI cJ cG cZ : ClassId) (a0 a0_net a0_painter a0_polynomial a0_listCounter a0_setFinder a0_takingApart a0_greedyRun a0_allowed a0_shown a0_shades a0_attempt a0_net_near a0_net_tail a0_net_head : Nat) (sz : Nat) (F : Nat) (v0_net_nodes : Int32) (v0_net_arcCount : Int32) (v0_net_version : Int32) (ret : Int32) (o_v0_net_nodes : Int32) (o_v0_net_version : Int32) (hm : m_CS_node F v0_net_nodes v0_net_arcCount v0_net_version = some (ret, o_v0_net_nodes, o_v0_net_version)) : Met l y_CS_node us_CS_node rm_CS_node (PcS (dC, dI) (tyL cI cJ cG cZ) [.ref a0] sz (wd_CS_node cI cJ cG cZ a0 a0_net a0_painter a0_polynomial a0_listCounter a0_setFinder a0_takingApart a0_greedyRun a0_allowed a0_shown a0_shades a0_attempt a0_net_near a0_net_tail a0_net_head v0_net_nodes v0_net_arcCount v0_net_version)) (va_Qi (fun (r : Int32) (_ : Unit) => ret = r) (fun _ t => PoS (dC, dI) (tyL cI cJ cG cZ) (wd_CS_node cI cJ cG cZ a0 a0_net a0_painter a0_polynomial a0_listCounter a0_setFinder a0_takingApart a0_greedyRun a0_allowed a0_shown a0_shades a0_attempt a0_net_near a0_net_tail a0_net_head o_v0_net_nodes v0_net_arcCount o_v0_net_version) (va_A (wd_CS_node cI cJ cG cZ a0 a0_net a0_painter a0_polynomial a0_listCounter a0_setFinder a0_takingApart a0_greedyRun a0_allowed a0_shown a0_shades a0_attempt a0_net_near a0_net_tail a0_net_head v0_net_nodes v0_net_arcCount v0_net_version) sz) t) (va_A (wd_CS_node cI cJ cG cZ a0 a0_net a0_painter a0_polynomial a0_listCounter a0_setFinder a0_takingApart a0_greedyRun a0_allowed a0_shown a0_shades a0_attempt a0_net_near a0_net_tail a0_net_head v0_net_nodes v0_net_arcCount v0_net_version) sz)) 0 0 (va_A (wd_CS_node cI cJ cG cZ a0 a0_net a0_painter a0_polynomial a0_listCounter a0_setFinder a0_takingApart a0_greedyRun a0_allowed a0_shown a0_shades a0_attempt a0_net_near a0_net_tail a0_net_head v0_net_nodes v0_net_arcCount v0_net_version) sz) := by
  refine Met.ofW (cc := prog_1_method_2_code) (maxL := 1) (ret := (some .int)) (by decide) rfl ?_
  intro p e s m args below meth c s₁ B hml hv
  obtain ⟨rfl, hsz, hP, hK, hD0, hNw⟩ := hv
  have hx := B.exec
  have hb := B.bytes
  have hr := B.returns
  have htt : ∀ w ∈ gtbl, w.before _ s = true := fun w h => atoms_spec (ws := us_CS_node) B.pre w (List.mem_cons_of_mem _ h)
  have hown : s.vm.findClass R_CS = some m.cls := findClass_of_methodNamed B.named
  have hlocks := B.notSynchronized
  subst hsz
  have hD := hD0.self (sz := s.heap.size)
  generalize hAe : va_A (wd_CS_node cI cJ cG cZ a0 a0_net a0_painter a0_polynomial a0_listCounter a0_setFinder a0_takingApart a0_greedyRun a0_allowed a0_shown a0_shades a0_attempt a0_net_near a0_net_tail a0_net_head v0_net_nodes v0_net_arcCount v0_net_version) s.heap.size = A at hD ⊢
  have hA : ∀ q : Nat, s.heap.size ≤ q → A q := fun q h => by rw [← hAe]; exact Or.inr h
  clear hAe hD0
  have hS : va_S A s.heap s.heap [] := va_S.rf
  have hl := lv_entry ([.ref a0]) (n := 1) (Nat.le_of_ble_eq_true rfl)
  rw [lg_entry_eq]
  generalize (lg_sl ([.ref a0]) ++ List.replicate (1 - (lg_sl ([.ref a0])).length) Slot.unset).toArray = ls at hl ⊢
  have hl : lv_has ls 1 [(0, .ref a0)] := hl
  generalize hH : s.heap = H at hP ⊢
  have hS : va_S A s.heap H [] := hH ▸ hS
  generalize hLo : ([] : List Loc) = locs at hS ⊢
  clear hH hLo
  unfold m_CS_node at hm
  refine lv_aload_n hx hb d_CS_node_0 rfl (lv_at hl 0 rfl) ?_
  refine va_get (D := (dC, dI)) (ci := 0) (v := .ref a0_net) (C := R_CS) (T := T_CS) (N := 11) hx hb htt hin_CS hown hK hP 0 rfl rfl 0 (by decide) (htt _ kt_224) (fun _ h9 => h9) rfl d_CS_node_1 ?_
  refine va_get (D := (dC, dI)) (ci := 1) (v := .int v0_net_nodes) (C := R_Net) (T := T_Net) (N := 6) hx hb htt hin_Net hown hK hP 1 rfl rfl 3 (by decide) (htt _ kt_46) (fun _ h9 => h9) rfl d_CS_node_4 ?_
  refine lv_bipush (v := 12) hx hb d_CS_node_7 (by decide) ?_
  refine lv_icmp_ge (tgt := 22) hx hb d_CS_node_9 (by decide) (fun c_1 => ?_) (fun c_1 => ?_)
  · have hm := ite_t c_1 hm
    refine lv_iconst (v := (-1)) hx hb d_CS_node_22 (by decide) ?_
    cases hm
    exact W.iret hx hb hr (fun t ht hW => ⟨⟨_, (), rfl, rfl, by rw [ht]; exact hP, va_K.moved hW.alike hK, hD⟩, hS.F ht⟩) hS.2.2 d_CS_node_23
  · have hm := ite_f c_1 hm
    refine lv_aload_n hx hb d_CS_node_12 rfl (lv_at hl 0 rfl) ?_
    refine va_get (D := (dC, dI)) (ci := 0) (v := .ref a0_net) (C := R_CS) (T := T_CS) (N := 11) hx hb htt hin_CS hown hK hP 0 rfl rfl 0 (by decide) (htt _ kt_224) (fun _ h9 => h9) rfl d_CS_node_13 ?_
    obtain ⟨⟨q_2, v0_net_nodes_3, v0_net_version_4⟩, hc_5, hm⟩ := gM_e hm
    dsimp only at hm
    have hPc : va_P (dC, dI) vwCl (wd_Net_addNode cI cJ cG cZ a0_net a0_net_near a0_net_tail a0_net_head v0_net_nodes v0_net_arcCount v0_net_version) H := hP.sub [1] rfl
    have hDc : va_D A (wd_Net_addNode cI cJ cG cZ a0_net a0_net_near a0_net_tail a0_net_head v0_net_nodes v0_net_arcCount v0_net_version) := hD.sub [1] (by decide) rfl
    have hFc : ∀ q, va_A (wd_Net_addNode cI cJ cG cZ a0_net a0_net_near a0_net_tail a0_net_head v0_net_nodes v0_net_arcCount v0_net_version) H.size q → A q := va_free hD hS hA [1] rfl
    refine va_calli (va_runV (As := []) (rest := []) ⟨hx, hb, hml, hown, htt⟩ (c_Net_addNode l dC dI cI cJ cG cZ a0_net a0_net_near a0_net_tail a0_net_head H.size F v0_net_nodes v0_net_arcCount v0_net_version q_2 v0_net_nodes_3 v0_net_version_4 hc_5) (cwV 0 htt (gdV kt_262 kt_263 kt_264 kt_2 kt_265) rfl rfl rfl (by decide +kernel) ⟨(Nat.le_of_ble_eq_true rfl), (Nat.le_of_ble_eq_true rfl)⟩) ⟨PcS_blind, va_recv hK hPc (ci := 1) (q0 := 0) rfl rfl, PcS_in hPc hK hDc hNw⟩ rfl rfl hl.1 rfl (lv_room (Nat.le_of_ble_eq_true rfl)) d_CS_node_16 ⟨Nat.zero_le _, Nat.zero_le _⟩) hS (fun q _ h => hFc q h) hFc (fun r_7 u t H1 locs ht hvm hw hB hz1 hk1 hS => ?_)
    obtain ⟨hP1, hK1, hD1⟩ := hB
    rw [ht] at hP1
    subst hw
    obtain ⟨hP, hD⟩ := va_join (wr := [(a0, .inr (0, [.ref a0_net, .ref a0_painter, .ref a0_polynomial, .ref a0_listCounter, .ref a0_setFinder, .ref a0_takingApart, .ref a0_greedyRun, .ref a0_allowed, .ref a0_shown, .ref a0_shades, .ref a0_attempt]))]) (w1 := (wd_Net_addNode cI cJ cG cZ a0_net a0_net_near a0_net_tail a0_net_head v0_net_nodes_3 v0_net_arcCount v0_net_version_4)) hP hD [1] [0] rfl rfl (by decide) (by decide) hk1 hFc hP1 hD1
    have hP : va_P (dC, dI) vwCl (wd_CS_node cI cJ cG cZ a0 a0_net a0_painter a0_polynomial a0_listCounter a0_setFinder a0_takingApart a0_greedyRun a0_allowed a0_shown a0_shades a0_attempt a0_net_near a0_net_tail a0_net_head v0_net_nodes_3 v0_net_arcCount v0_net_version_4) H1 := hP.sub [0, 1] rfl
    have hD : va_D A (wd_CS_node cI cJ cG cZ a0 a0_net a0_painter a0_polynomial a0_listCounter a0_setFinder a0_takingApart a0_greedyRun a0_allowed a0_shown a0_shades a0_attempt a0_net_near a0_net_tail a0_net_head v0_net_nodes_3 v0_net_arcCount v0_net_version_4) := hD.sub [0, 1] (by decide) rfl
    clear hP1 hK1 hD1 hk1 hPc hDc hFc ht hvm hz1
    generalize H1 = H at hP hS ⊢
    refine lv_goto (tgt := 23) hx hb d_CS_node_19 (by decide) ?_
    cases hm
    exact W.iret hx hb hr (fun t ht hW => ⟨⟨_, (), rfl, rfl, by rw [ht]; exact hP, va_K.moved hW.alike hK, hD⟩, hS.F ht⟩) hS.2.2 d_CS_node_23
theorem d_CS_arc_0 : decode prog_1_method_3_code 0 = .ok (.aload_n 0, 1) := by decide +kernel
theorem d_CS_arc_1 : decode prog_1_method_3_code 1 = .ok (.getfield 12, 3) := by decide +kernel
theorem d_CS_arc_4 : decode prog_1_method_3_code 4 = .ok (.iload_n 1, 1) := by decide +kernel
theorem d_CS_arc_5 : decode prog_1_method_3_code 5 = .ok (.iload_n 2, 1) := by decide +kernel
theorem d_CS_arc_6 : decode prog_1_method_3_code 6 = .ok (.invokevirtual 85, 3) := by decide +kernel
theorem d_CS_arc_9 : decode prog_1_method_3_code 9 = .ok (.ifCond .ne 5, 3) := by decide +kernel
theorem d_CS_arc_12 : decode prog_1_method_3_code 12 = .ok (.iconst (-1), 1) := by decide +kernel
theorem d_CS_arc_13 : decode prog_1_method_3_code 13 = .ok (.ireturn, 1) := by decide +kernel
theorem d_CS_arc_14 : decode prog_1_method_3_code 14 = .ok (.aload_n 0, 1) := by decide +kernel
theorem d_CS_arc_15 : decode prog_1_method_3_code 15 = .ok (.getfield 65, 3) := by decide +kernel
theorem d_CS_arc_18 : decode prog_1_method_3_code 18 = .ok (.aload_n 0, 1) := by decide +kernel
theorem d_CS_arc_19 : decode prog_1_method_3_code 19 = .ok (.getfield 12, 3) := by decide +kernel
theorem d_CS_arc_22 : decode prog_1_method_3_code 22 = .ok (.getfield 89, 3) := by decide +kernel
theorem d_CS_arc_25 : decode prog_1_method_3_code 25 = .ok (.iconst (-1), 1) := by decide +kernel
theorem d_CS_arc_26 : decode prog_1_method_3_code 26 = .ok (.iastore, 1) := by decide +kernel
theorem d_CS_arc_27 : decode prog_1_method_3_code 27 = .ok (.aload_n 0, 1) := by decide +kernel
theorem d_CS_arc_28 : decode prog_1_method_3_code 28 = .ok (.getfield 12, 3) := by decide +kernel
theorem d_CS_arc_31 : decode prog_1_method_3_code 31 = .ok (.iload_n 1, 1) := by decide +kernel
theorem d_CS_arc_32 : decode prog_1_method_3_code 32 = .ok (.iload_n 2, 1) := by decide +kernel
theorem d_CS_arc_33 : decode prog_1_method_3_code 33 = .ok (.invokevirtual 92, 3) := by decide +kernel
theorem d_CS_arc_36 : decode prog_1_method_3_code 36 = .ok (.ireturn, 1) := by decide +kernel
abbrev wd_CS_arc (cI cJ cG cZ : ClassId) (a0 a0_net a0_painter a0_polynomial a0_listCounter a0_setFinder a0_takingApart a0_greedyRun a0_allowed a0_shown a0_shades a0_attempt a0_net_near a0_net_tail a0_net_head : Nat) (v0_net_nodes : Int32) (v0_net_arcCount : Int32) (v0_net_version : Int32) (w0_net_near : Nat → Int32) (w0_net_tail : Nat → Int32) (w0_net_head : Nat → Int32) (w0_shades : Nat → Int32) : va_W := [(a0, .inr (0, [.ref a0_net, .ref a0_painter, .ref a0_polynomial, .ref a0_listCounter, .ref a0_setFinder, .ref a0_takingApart, .ref a0_greedyRun, .ref a0_allowed, .ref a0_shown, .ref a0_shades, .ref a0_attempt])), (a0_net, .inr (1, [.ref a0_net_near, .ref a0_net_tail, .ref a0_net_head, .int v0_net_nodes, .int v0_net_arcCount, .int v0_net_version])), (a0_net_near, .inl (cI, 12, .inl w0_net_near)), (a0_net_tail, .inl (cI, 40, .inl w0_net_tail)), (a0_net_head, .inl (cI, 40, .inl w0_net_head)), (a0_shades, .inl (cI, 40, .inl w0_shades))]
abbrev us_CS_arc : List Cond := .code y_CS_arc prog_1_method_3_code 3 (some .int) :: gtbl
abbrev rm_CS_arc : Room := { frames := 2, cells := 0, slots := 0, locals := 43 }
def m_CS_arc (F : Nat) (v0_net_nodes : Int32) (v0_net_arcCount : Int32) (v0_net_version : Int32) (w0_net_near : Nat → Int32) (w0_net_tail : Nat → Int32) (w0_net_head : Nat → Int32) (w0_shades : Nat → Int32) (p1 : Int32) (p2 : Int32) : Option (Int32 × Int32 × Int32 × (Nat → Int32) × (Nat → Int32) × (Nat → Int32) × (Nat → Int32)) :=
  gM (m_Net_mayJoin F v0_net_nodes v0_net_arcCount v0_net_version w0_net_near p1 p2) (fun q_1 =>
  if q_1 = 0 then (
    some ((-1), v0_net_arcCount, v0_net_version, w0_net_near, w0_net_tail, w0_net_head, w0_shades)
  ) else (
    gC (inb v0_net_arcCount 40) (
    gM (m_Net_join F v0_net_nodes v0_net_arcCount v0_net_version w0_net_near w0_net_tail w0_net_head p1 p2) (fun (z_14 : Int32 × Int32 × Int32 × (Nat → Int32) × (Nat → Int32) × (Nat → Int32)) => match z_14 with
    | (q_7, v0_net_arcCount_8, v0_net_version_9, w0_net_near_10, w0_net_tail_11, w0_net_head_12) =>
    some (q_7, v0_net_arcCount_8, v0_net_version_9, w0_net_near_10, w0_net_tail_11, w0_net_head_12, upd w0_shades v0_net_arcCount.toNatClampNeg (-1))))
  ))
set_option maxHeartbeats 4000000 in
set_option maxRecDepth 100000 in
theorem c_CS_arc (l : Launch) (dC : Nat → ClassId) (dI : Nat → Nat → Nat) (cI cJ cG cZ : ClassId) (a0 a0_net a0_painter a0_polynomial a0_listCounter a0_setFinder a0_takingApart a0_greedyRun a0_allowed a0_shown a0_shades a0_attempt a0_net_near a0_net_tail a0_net_head : Nat) (sz : Nat) (F : Nat) (v0_net_nodes : Int32) (v0_net_arcCount : Int32) (v0_net_version : Int32) (w0_net_near : Nat → Int32) (w0_net_tail : Nat → Int32) (w0_net_head : Nat → Int32) (w0_shades : Nat → Int32) (p1 : Int32) (p2 : Int32) (ret : Int32) (o_v0_net_arcCount : Int32) (o_v0_net_version : Int32) (o_w0_net_near : Nat → Int32) (o_w0_net_tail : Nat → Int32) (o_w0_net_head : Nat → Int32) (o_w0_shades : Nat → Int32) (hm : m_CS_arc F v0_net_nodes v0_net_arcCount v0_net_version w0_net_near w0_net_tail w0_net_head w0_shades p1 p2 = some (ret, o_v0_net_arcCount, o_v0_net_version, o_w0_net_near, o_w0_net_tail, o_w0_net_head, o_w0_shades)) : Met l y_CS_arc us_CS_arc rm_CS_arc (PcS (dC, dI) (tyL cI cJ cG cZ) [.ref a0, .int p1, .int p2] sz (wd_CS_arc cI cJ cG cZ a0 a0_net a0_painter a0_polynomial a0_listCounter a0_setFinder a0_takingApart a0_greedyRun a0_allowed a0_shown a0_shades a0_attempt a0_net_near a0_net_tail a0_net_head v0_net_nodes v0_net_arcCount v0_net_version w0_net_near w0_net_tail w0_net_head w0_shades)) (va_Qi (fun (r : Int32) (_ : Unit) => ret = r) (fun _ t => PoS (dC, dI) (tyL cI cJ cG cZ) (wd_CS_arc cI cJ cG cZ a0 a0_net a0_painter a0_polynomial a0_listCounter a0_setFinder a0_takingApart a0_greedyRun a0_allowed a0_shown a0_shades a0_attempt a0_net_near a0_net_tail a0_net_head v0_net_nodes o_v0_net_arcCount o_v0_net_version o_w0_net_near o_w0_net_tail o_w0_net_head o_w0_shades) (va_A (wd_CS_arc cI cJ cG cZ a0 a0_net a0_painter a0_polynomial a0_listCounter a0_setFinder a0_takingApart a0_greedyRun a0_allowed a0_shown a0_shades a0_attempt a0_net_near a0_net_tail a0_net_head v0_net_nodes v0_net_arcCount v0_net_version w0_net_near w0_net_tail w0_net_head w0_shades) sz) t) (va_A (wd_CS_arc cI cJ cG cZ a0 a0_net a0_painter a0_polynomial a0_listCounter a0_setFinder a0_takingApart a0_greedyRun a0_allowed a0_shown a0_shades a0_attempt a0_net_near a0_net_tail a0_net_head v0_net_nodes v0_net_arcCount v0_net_version w0_net_near w0_net_tail w0_net_head w0_shades) sz)) 0 0 (va_A (wd_CS_arc cI cJ cG cZ a0 a0_net a0_painter a0_polynomial a0_listCounter a0_setFinder a0_takingApart a0_greedyRun a0_allowed a0_shown a0_shades a0_attempt a0_net_near a0_net_tail a0_net_head v0_net_nodes v0_net_arcCount v0_net_version w0_net_near w0_net_tail w0_net_head w0_shades) sz) := by
  refine Met.ofW (cc := prog_1_method_3_code) (maxL := 3) (ret := (some .int)) (by decide) rfl ?_
  intro p e s m args below meth c s₁ B hml hv
  obtain ⟨rfl, hsz, hP, hK, hD0, hNw⟩ := hv
  have hx := B.exec
  have hb := B.bytes
  have hr := B.returns
  have htt : ∀ w ∈ gtbl, w.before _ s = true := fun w h => atoms_spec (ws := us_CS_arc) B.pre w (List.mem_cons_of_mem _ h)
  have hown : s.vm.findClass R_CS = some m.cls := findClass_of_methodNamed B.named
  have hlocks := B.notSynchronized
  subst hsz
  have hD := hD0.self (sz := s.heap.size)
  generalize hAe : va_A (wd_CS_arc cI cJ cG cZ a0 a0_net a0_painter a0_polynomial a0_listCounter a0_setFinder a0_takingApart a0_greedyRun a0_allowed a0_shown a0_shades a0_attempt a0_net_near a0_net_tail a0_net_head v0_net_nodes v0_net_arcCount v0_net_version w0_net_near w0_net_tail w0_net_head w0_shades) s.heap.size = A at hD ⊢
  have hA : ∀ q : Nat, s.heap.size ≤ q → A q := fun q h => by rw [← hAe]; exact Or.inr h
  clear hAe hD0
  have hS : va_S A s.heap s.heap [] := va_S.rf
  have hl := lv_entry ([.ref a0, .int p1, .int p2]) (n := 3) (Nat.le_of_ble_eq_true rfl)
  rw [lg_entry_eq]
  generalize (lg_sl ([.ref a0, .int p1, .int p2]) ++ List.replicate (3 - (lg_sl ([.ref a0, .int p1, .int p2])).length) Slot.unset).toArray = ls at hl ⊢
  have hl : lv_has ls 3 [(0, .ref a0), (1, .int p1), (2, .int p2)] := hl
  generalize hH : s.heap = H at hP ⊢
  have hS : va_S A s.heap H [] := hH ▸ hS
  generalize hLo : ([] : List Loc) = locs at hS ⊢
  clear hH hLo
  unfold m_CS_arc at hm
  refine lv_aload_n hx hb d_CS_arc_0 rfl (lv_at hl 0 rfl) ?_
  refine va_get (D := (dC, dI)) (ci := 0) (v := .ref a0_net) (C := R_CS) (T := T_CS) (N := 11) hx hb htt hin_CS hown hK hP 0 rfl rfl 0 (by decide) (htt _ kt_224) (fun _ h9 => h9) rfl d_CS_arc_1 ?_
  refine lv_iload_n hx hb d_CS_arc_4 rfl (lv_at hl 1 rfl) ?_
  refine lv_iload_n hx hb d_CS_arc_5 rfl (lv_at hl 2 rfl) ?_
  obtain ⟨q_1, hc_2, hm⟩ := gM_e hm
  have hPc : va_P (dC, dI) vwCl (wd_Net_mayJoin cI cJ cG cZ a0_net a0_net_near a0_net_tail a0_net_head v0_net_nodes v0_net_arcCount v0_net_version w0_net_near) H := hP.sub [1, 2] rfl
  have hDc : va_D A (wd_Net_mayJoin cI cJ cG cZ a0_net a0_net_near a0_net_tail a0_net_head v0_net_nodes v0_net_arcCount v0_net_version w0_net_near) := hD.sub [1, 2] (by decide) rfl
  have hFc : ∀ q, va_A (wd_Net_mayJoin cI cJ cG cZ a0_net a0_net_near a0_net_tail a0_net_head v0_net_nodes v0_net_arcCount v0_net_version w0_net_near) H.size q → A q := va_free hD hS hA [1, 2] rfl
  refine va_calli (va_runV (As := [.int p1, .int p2]) (rest := []) ⟨hx, hb, hml, hown, htt⟩ (c_Net_mayJoin l dC dI cI cJ cG cZ a0_net a0_net_near a0_net_tail a0_net_head H.size F v0_net_nodes v0_net_arcCount v0_net_version w0_net_near p1 p2 q_1 hc_2) (cwV 2 htt (gdV kt_270 kt_271 kt_272 kt_2 kt_273) rfl rfl rfl (by decide +kernel) ⟨(Nat.le_of_ble_eq_true rfl), (Nat.le_of_ble_eq_true rfl)⟩) ⟨PcS_blind, va_recv hK hPc (ci := 1) (q0 := 0) rfl rfl, PcS_in hPc hK hDc hNw⟩ rfl rfl hl.1 rfl (lv_room (Nat.le_of_ble_eq_true rfl)) d_CS_arc_6 ⟨Nat.zero_le _, Nat.zero_le _⟩) hS (fun q _ h => hFc q h) hFc (fun r_3 u t H1 locs ht hvm hw hB hz1 hk1 hS => ?_)
  obtain ⟨hP1, hK1, hD1⟩ := hB
  rw [ht] at hP1
  obtain ⟨hw, hz_4⟩ := hw
  subst hw
  obtain ⟨hP, hD⟩ := va_join (wr := [(a0, .inr (0, [.ref a0_net, .ref a0_painter, .ref a0_polynomial, .ref a0_listCounter, .ref a0_setFinder, .ref a0_takingApart, .ref a0_greedyRun, .ref a0_allowed, .ref a0_shown, .ref a0_shades, .ref a0_attempt])), (a0_net_tail, .inl (cI, 40, .inl w0_net_tail)), (a0_net_head, .inl (cI, 40, .inl w0_net_head)), (a0_shades, .inl (cI, 40, .inl w0_shades))]) (w1 := (wd_Net_mayJoin cI cJ cG cZ a0_net a0_net_near a0_net_tail a0_net_head v0_net_nodes v0_net_arcCount v0_net_version w0_net_near)) hP hD [1, 2] [0, 3, 4, 5] rfl rfl (by decide) (by decide) hk1 hFc hP1 hD1
  have hP : va_P (dC, dI) vwCl (wd_CS_arc cI cJ cG cZ a0 a0_net a0_painter a0_polynomial a0_listCounter a0_setFinder a0_takingApart a0_greedyRun a0_allowed a0_shown a0_shades a0_attempt a0_net_near a0_net_tail a0_net_head v0_net_nodes v0_net_arcCount v0_net_version w0_net_near w0_net_tail w0_net_head w0_shades) H1 := hP.sub [0, 4, 5, 1, 2, 3] rfl
  have hD : va_D A (wd_CS_arc cI cJ cG cZ a0 a0_net a0_painter a0_polynomial a0_listCounter a0_setFinder a0_takingApart a0_greedyRun a0_allowed a0_shown a0_shades a0_attempt a0_net_near a0_net_tail a0_net_head v0_net_nodes v0_net_arcCount v0_net_version w0_net_near w0_net_tail w0_net_head w0_shades) := hD.sub [0, 4, 5, 1, 2, 3] (by decide) rfl
  clear hP1 hK1 hD1 hk1 hPc hDc hFc ht hvm hz1
  generalize H1 = H at hP hS ⊢
  refine lv_if_ne (tgt := 14) hx hb d_CS_arc_9 (by decide) (fun c_5 => ?_) (fun c_5 => ?_)
  · have hm := ite_f c_5 hm
    refine lv_aload_n hx hb d_CS_arc_14 rfl (lv_at hl 0 rfl) ?_
    refine va_get (D := (dC, dI)) (ci := 0) (v := .ref a0_shades) (C := R_CS) (T := T_CS) (N := 11) hx hb htt hin_CS hown hK hP 0 rfl rfl 9 (by decide) (htt _ kt_233) (fun _ h9 => h9) rfl d_CS_arc_15 ?_
    refine lv_aload_n hx hb d_CS_arc_18 rfl (lv_at hl 0 rfl) ?_
    refine va_get (D := (dC, dI)) (ci := 0) (v := .ref a0_net) (C := R_CS) (T := T_CS) (N := 11) hx hb htt hin_CS hown hK hP 0 rfl rfl 0 (by decide) (htt _ kt_224) (fun _ h9 => h9) rfl d_CS_arc_19 ?_
    refine va_get (D := (dC, dI)) (ci := 1) (v := .int v0_net_arcCount) (C := R_Net) (T := T_Net) (N := 6) hx hb htt hin_Net hown hK hP 1 rfl rfl 4 (by decide) (htt _ kt_53) (fun _ h9 => h9) rfl d_CS_arc_22 ?_
    refine lv_iconst (v := (-1)) hx hb d_CS_arc_25 (by decide) ?_
    obtain ⟨hi_6, hm⟩ := gC_e hm
    refine va_iast hx hb hK hP hD hS 5 0 rfl rfl (inb_vp hi_6) d_CS_arc_26 (fun H locs hP hD hS => ?_)
    have hP : va_P (dC, dI) vwCl (wd_CS_arc cI cJ cG cZ a0 a0_net a0_painter a0_polynomial a0_listCounter a0_setFinder a0_takingApart a0_greedyRun a0_allowed a0_shown a0_shades a0_attempt a0_net_near a0_net_tail a0_net_head v0_net_nodes v0_net_arcCount v0_net_version w0_net_near w0_net_tail w0_net_head (upd w0_shades v0_net_arcCount.toNatClampNeg (-1))) H := hP
    have hD : va_D A (wd_CS_arc cI cJ cG cZ a0 a0_net a0_painter a0_polynomial a0_listCounter a0_setFinder a0_takingApart a0_greedyRun a0_allowed a0_shown a0_shades a0_attempt a0_net_near a0_net_tail a0_net_head v0_net_nodes v0_net_arcCount v0_net_version w0_net_near w0_net_tail w0_net_head (upd w0_shades v0_net_arcCount.toNatClampNeg (-1))) := hD
    refine lv_aload_n hx hb d_CS_arc_27 rfl (lv_at hl 0 rfl) ?_
    refine va_get (D := (dC, dI)) (ci := 0) (v := .ref a0_net) (C := R_CS) (T := T_CS) (N := 11) hx hb htt hin_CS hown hK hP 0 rfl rfl 0 (by decide) (htt _ kt_224) (fun _ h9 => h9) rfl d_CS_arc_28 ?_
    refine lv_iload_n hx hb d_CS_arc_31 rfl (lv_at hl 1 rfl) ?_
    refine lv_iload_n hx hb d_CS_arc_32 rfl (lv_at hl 2 rfl) ?_
    obtain ⟨⟨q_7, v0_net_arcCount_8, v0_net_version_9, w0_net_near_10, w0_net_tail_11, w0_net_head_12⟩, hc_13, hm⟩ := gM_e hm
    dsimp only at hm
    have hPc : va_P (dC, dI) vwCl (wd_Net_join cI cJ cG cZ a0_net a0_net_near a0_net_tail a0_net_head v0_net_nodes v0_net_arcCount v0_net_version w0_net_near w0_net_tail w0_net_head) H := hP.sub [1, 2, 3, 4] rfl
    have hDc : va_D A (wd_Net_join cI cJ cG cZ a0_net a0_net_near a0_net_tail a0_net_head v0_net_nodes v0_net_arcCount v0_net_version w0_net_near w0_net_tail w0_net_head) := hD.sub [1, 2, 3, 4] (by decide) rfl
    have hFc : ∀ q, va_A (wd_Net_join cI cJ cG cZ a0_net a0_net_near a0_net_tail a0_net_head v0_net_nodes v0_net_arcCount v0_net_version w0_net_near w0_net_tail w0_net_head) H.size q → A q := va_free hD hS hA [1, 2, 3, 4] rfl
    refine va_calli (va_runV (As := [.int p1, .int p2]) (rest := []) ⟨hx, hb, hml, hown, htt⟩ (c_Net_join l dC dI cI cJ cG cZ a0_net a0_net_near a0_net_tail a0_net_head H.size F v0_net_nodes v0_net_arcCount v0_net_version w0_net_near w0_net_tail w0_net_head p1 p2 q_7 v0_net_arcCount_8 v0_net_version_9 w0_net_near_10 w0_net_tail_11 w0_net_head_12 hc_13) (cwV 2 htt (gdV kt_278 kt_279 kt_280 kt_2 kt_281) rfl rfl rfl (by decide +kernel) ⟨(Nat.le_of_ble_eq_true rfl), (Nat.le_of_ble_eq_true rfl)⟩) ⟨PcS_blind, va_recv hK hPc (ci := 1) (q0 := 0) rfl rfl, PcS_in hPc hK hDc hNw⟩ rfl rfl hl.1 rfl (lv_room (Nat.le_of_ble_eq_true rfl)) d_CS_arc_33 ⟨Nat.zero_le _, Nat.zero_le _⟩) hS (fun q _ h => hFc q h) hFc (fun r_15 u t H1 locs ht hvm hw hB hz1 hk1 hS => ?_)
    obtain ⟨hP1, hK1, hD1⟩ := hB
    rw [ht] at hP1
    subst hw
    obtain ⟨hP, hD⟩ := va_join (wr := [(a0, .inr (0, [.ref a0_net, .ref a0_painter, .ref a0_polynomial, .ref a0_listCounter, .ref a0_setFinder, .ref a0_takingApart, .ref a0_greedyRun, .ref a0_allowed, .ref a0_shown, .ref a0_shades, .ref a0_attempt])), (a0_shades, .inl (cI, 40, .inl (upd w0_shades v0_net_arcCount.toNatClampNeg (-1))))]) (w1 := (wd_Net_join cI cJ cG cZ a0_net a0_net_near a0_net_tail a0_net_head v0_net_nodes v0_net_arcCount_8 v0_net_version_9 w0_net_near_10 w0_net_tail_11 w0_net_head_12)) hP hD [1, 2, 3, 4] [0, 5] rfl rfl (by decide) (by decide) hk1 hFc hP1 hD1
    have hP : va_P (dC, dI) vwCl (wd_CS_arc cI cJ cG cZ a0 a0_net a0_painter a0_polynomial a0_listCounter a0_setFinder a0_takingApart a0_greedyRun a0_allowed a0_shown a0_shades a0_attempt a0_net_near a0_net_tail a0_net_head v0_net_nodes v0_net_arcCount_8 v0_net_version_9 w0_net_near_10 w0_net_tail_11 w0_net_head_12 (upd w0_shades v0_net_arcCount.toNatClampNeg (-1))) H1 := hP.sub [0, 2, 3, 4, 5, 1] rfl
    have hD : va_D A (wd_CS_arc cI cJ cG cZ a0 a0_net a0_painter a0_polynomial a0_listCounter a0_setFinder a0_takingApart a0_greedyRun a0_allowed a0_shown a0_shades a0_attempt a0_net_near a0_net_tail a0_net_head v0_net_nodes v0_net_arcCount_8 v0_net_version_9 w0_net_near_10 w0_net_tail_11 w0_net_head_12 (upd w0_shades v0_net_arcCount.toNatClampNeg (-1))) := hD.sub [0, 2, 3, 4, 5, 1] (by decide) rfl
    clear hP1 hK1 hD1 hk1 hPc hDc hFc ht hvm hz1
    generalize H1 = H at hP hS ⊢
    cases hm
    exact W.iret hx hb hr (fun t ht hW => ⟨⟨_, (), rfl, rfl, by rw [ht]; exact hP, va_K.moved hW.alike hK, hD⟩, hS.F ht⟩) hS.2.2 d_CS_arc_36
  · have hm := ite_t c_5 hm
    refine lv_iconst (v := (-1)) hx hb d_CS_arc_12 (by decide) ?_
    cases hm
    exact W.iret hx hb hr (fun t ht hW => ⟨⟨_, (), rfl, rfl, by rw [ht]; exact hP, va_K.moved hW.alike hK, hD⟩, hS.F ht⟩) hS.2.2 d_CS_arc_13
theorem d_CS_drop_0 : decode prog_1_method_4_code 0 = .ok (.aload_n 0, 1) := by decide +kernel
theorem d_CS_drop_1 : decode prog_1_method_4_code 1 = .ok (.getfield 12, 3) := by decide +kernel
theorem d_CS_drop_4 : decode prog_1_method_4_code 4 = .ok (.invokevirtual 96, 3) := by decide +kernel
theorem d_CS_drop_7 : decode prog_1_method_4_code 7 = .ok (.ireturn, 1) := by decide +kernel
abbrev wd_CS_drop (cI cJ cG cZ : ClassId) (a0 a0_net a0_painter a0_polynomial a0_listCounter a0_setFinder a0_takingApart a0_greedyRun a0_allowed a0_shown a0_shades a0_attempt a0_net_near a0_net_tail a0_net_head : Nat) (v0_net_nodes : Int32) (v0_net_arcCount : Int32) (v0_net_version : Int32) (w0_net_near : Nat → Int32) (w0_net_tail : Nat → Int32) (w0_net_head : Nat → Int32) : va_W := [(a0, .inr (0, [.ref a0_net, .ref a0_painter, .ref a0_polynomial, .ref a0_listCounter, .ref a0_setFinder, .ref a0_takingApart, .ref a0_greedyRun, .ref a0_allowed, .ref a0_shown, .ref a0_shades, .ref a0_attempt])), (a0_net, .inr (1, [.ref a0_net_near, .ref a0_net_tail, .ref a0_net_head, .int v0_net_nodes, .int v0_net_arcCount, .int v0_net_version])), (a0_net_near, .inl (cI, 12, .inl w0_net_near)), (a0_net_tail, .inl (cI, 40, .inl w0_net_tail)), (a0_net_head, .inl (cI, 40, .inl w0_net_head))]
abbrev us_CS_drop : List Cond := .code y_CS_drop prog_1_method_4_code 1 (some .boolean) :: gtbl
abbrev rm_CS_drop : Room := { frames := 1, cells := 0, slots := 0, locals := 22 }
def m_CS_drop (F : Nat) (v0_net_nodes : Int32) (v0_net_arcCount : Int32) (v0_net_version : Int32) (w0_net_near : Nat → Int32) (w0_net_tail : Nat → Int32) (w0_net_head : Nat → Int32) : Option (Int32 × Int32 × Int32 × (Nat → Int32)) :=
  gM (m_Net_cutLast F v0_net_nodes v0_net_arcCount v0_net_version w0_net_near w0_net_tail w0_net_head) (fun (z_6 : Int32 × Int32 × Int32 × (Nat → Int32)) => match z_6 with
  | (q_1, v0_net_arcCount_2, v0_net_version_3, w0_net_near_4) =>
  some (q_1, v0_net_arcCount_2, v0_net_version_3, w0_net_near_4))
set_option maxHeartbeats 4000000 in
set_option maxRecDepth 100000 in
theorem c_CS_drop (l : Launch) (dC : Nat → ClassId) (dI : Nat → Nat → Nat) (cI cJ cG cZ : ClassId) (a0 a0_net a0_painter a0_polynomial a0_listCounter a0_setFinder a0_takingApart a0_greedyRun a0_allowed a0_shown a0_shades a0_attempt a0_net_near a0_net_tail a0_net_head : Nat) (sz : Nat) (F : Nat) (v0_net_nodes : Int32) (v0_net_arcCount : Int32) (v0_net_version : Int32) (w0_net_near : Nat → Int32) (w0_net_tail : Nat → Int32) (w0_net_head : Nat → Int32) (ret : Int32) (o_v0_net_arcCount : Int32) (o_v0_net_version : Int32) (o_w0_net_near : Nat → Int32) (hm : m_CS_drop F v0_net_nodes v0_net_arcCount v0_net_version w0_net_near w0_net_tail w0_net_head = some (ret, o_v0_net_arcCount, o_v0_net_version, o_w0_net_near)) : Met l y_CS_drop us_CS_drop rm_CS_drop (PcS (dC, dI) (tyL cI cJ cG cZ) [.ref a0] sz (wd_CS_drop cI cJ cG cZ a0 a0_net a0_painter a0_polynomial a0_listCounter a0_setFinder a0_takingApart a0_greedyRun a0_allowed a0_shown a0_shades a0_attempt a0_net_near a0_net_tail a0_net_head v0_net_nodes v0_net_arcCount v0_net_version w0_net_near w0_net_tail w0_net_head)) (va_Qi (fun (r : Int32) (_ : Unit) => ret = r ∧ bz r) (fun _ t => PoS (dC, dI) (tyL cI cJ cG cZ) (wd_CS_drop cI cJ cG cZ a0 a0_net a0_painter a0_polynomial a0_listCounter a0_setFinder a0_takingApart a0_greedyRun a0_allowed a0_shown a0_shades a0_attempt a0_net_near a0_net_tail a0_net_head v0_net_nodes o_v0_net_arcCount o_v0_net_version o_w0_net_near w0_net_tail w0_net_head) (va_A (wd_CS_drop cI cJ cG cZ a0 a0_net a0_painter a0_polynomial a0_listCounter a0_setFinder a0_takingApart a0_greedyRun a0_allowed a0_shown a0_shades a0_attempt a0_net_near a0_net_tail a0_net_head v0_net_nodes v0_net_arcCount v0_net_version w0_net_near w0_net_tail w0_net_head) sz) t) (va_A (wd_CS_drop cI cJ cG cZ a0 a0_net a0_painter a0_polynomial a0_listCounter a0_setFinder a0_takingApart a0_greedyRun a0_allowed a0_shown a0_shades a0_attempt a0_net_near a0_net_tail a0_net_head v0_net_nodes v0_net_arcCount v0_net_version w0_net_near w0_net_tail w0_net_head) sz)) 0 0 (va_A (wd_CS_drop cI cJ cG cZ a0 a0_net a0_painter a0_polynomial a0_listCounter a0_setFinder a0_takingApart a0_greedyRun a0_allowed a0_shown a0_shades a0_attempt a0_net_near a0_net_tail a0_net_head v0_net_nodes v0_net_arcCount v0_net_version w0_net_near w0_net_tail w0_net_head) sz) := by
  refine Met.ofW (cc := prog_1_method_4_code) (maxL := 1) (ret := (some .boolean)) (by decide) rfl ?_
  intro p e s m args below meth c s₁ B hml hv
  obtain ⟨rfl, hsz, hP, hK, hD0, hNw⟩ := hv
  have hx := B.exec
  have hb := B.bytes
  have hr := B.returns
  have htt : ∀ w ∈ gtbl, w.before _ s = true := fun w h => atoms_spec (ws := us_CS_drop) B.pre w (List.mem_cons_of_mem _ h)
  have hown : s.vm.findClass R_CS = some m.cls := findClass_of_methodNamed B.named
  have hlocks := B.notSynchronized
  subst hsz
  have hD := hD0.self (sz := s.heap.size)
  generalize hAe : va_A (wd_CS_drop cI cJ cG cZ a0 a0_net a0_painter a0_polynomial a0_listCounter a0_setFinder a0_takingApart a0_greedyRun a0_allowed a0_shown a0_shades a0_attempt a0_net_near a0_net_tail a0_net_head v0_net_nodes v0_net_arcCount v0_net_version w0_net_near w0_net_tail w0_net_head) s.heap.size = A at hD ⊢
  have hA : ∀ q : Nat, s.heap.size ≤ q → A q := fun q h => by rw [← hAe]; exact Or.inr h
  clear hAe hD0
  have hS : va_S A s.heap s.heap [] := va_S.rf
  have hl := lv_entry ([.ref a0]) (n := 1) (Nat.le_of_ble_eq_true rfl)
  rw [lg_entry_eq]
  generalize (lg_sl ([.ref a0]) ++ List.replicate (1 - (lg_sl ([.ref a0])).length) Slot.unset).toArray = ls at hl ⊢
  have hl : lv_has ls 1 [(0, .ref a0)] := hl
  generalize hH : s.heap = H at hP ⊢
  have hS : va_S A s.heap H [] := hH ▸ hS
  generalize hLo : ([] : List Loc) = locs at hS ⊢
  clear hH hLo
  unfold m_CS_drop at hm
  refine lv_aload_n hx hb d_CS_drop_0 rfl (lv_at hl 0 rfl) ?_
  refine va_get (D := (dC, dI)) (ci := 0) (v := .ref a0_net) (C := R_CS) (T := T_CS) (N := 11) hx hb htt hin_CS hown hK hP 0 rfl rfl 0 (by decide) (htt _ kt_224) (fun _ h9 => h9) rfl d_CS_drop_1 ?_
  obtain ⟨⟨q_1, v0_net_arcCount_2, v0_net_version_3, w0_net_near_4⟩, hc_5, hm⟩ := gM_e hm
  dsimp only at hm
  have hPc : va_P (dC, dI) vwCl (wd_Net_cutLast cI cJ cG cZ a0_net a0_net_near a0_net_tail a0_net_head v0_net_nodes v0_net_arcCount v0_net_version w0_net_near w0_net_tail w0_net_head) H := hP.sub [1, 2, 3, 4] rfl
  have hDc : va_D A (wd_Net_cutLast cI cJ cG cZ a0_net a0_net_near a0_net_tail a0_net_head v0_net_nodes v0_net_arcCount v0_net_version w0_net_near w0_net_tail w0_net_head) := hD.sub [1, 2, 3, 4] (by decide) rfl
  have hFc : ∀ q, va_A (wd_Net_cutLast cI cJ cG cZ a0_net a0_net_near a0_net_tail a0_net_head v0_net_nodes v0_net_arcCount v0_net_version w0_net_near w0_net_tail w0_net_head) H.size q → A q := va_free hD hS hA [1, 2, 3, 4] rfl
  refine va_calli (va_runV (As := []) (rest := []) ⟨hx, hb, hml, hown, htt⟩ (c_Net_cutLast l dC dI cI cJ cG cZ a0_net a0_net_near a0_net_tail a0_net_head H.size F v0_net_nodes v0_net_arcCount v0_net_version w0_net_near w0_net_tail w0_net_head q_1 v0_net_arcCount_2 v0_net_version_3 w0_net_near_4 hc_5) (cwV 0 htt (gdV kt_286 kt_287 kt_288 kt_2 kt_289) rfl rfl rfl (by decide +kernel) ⟨(Nat.le_of_ble_eq_true rfl), (Nat.le_of_ble_eq_true rfl)⟩) ⟨PcS_blind, va_recv hK hPc (ci := 1) (q0 := 0) rfl rfl, PcS_in hPc hK hDc hNw⟩ rfl rfl hl.1 rfl (lv_room (Nat.le_of_ble_eq_true rfl)) d_CS_drop_4 ⟨Nat.zero_le _, Nat.zero_le _⟩) hS (fun q _ h => hFc q h) hFc (fun r_7 u t H1 locs ht hvm hw hB hz1 hk1 hS => ?_)
  obtain ⟨hP1, hK1, hD1⟩ := hB
  rw [ht] at hP1
  obtain ⟨hw, hz_8⟩ := hw
  subst hw
  obtain ⟨hP, hD⟩ := va_join (wr := [(a0, .inr (0, [.ref a0_net, .ref a0_painter, .ref a0_polynomial, .ref a0_listCounter, .ref a0_setFinder, .ref a0_takingApart, .ref a0_greedyRun, .ref a0_allowed, .ref a0_shown, .ref a0_shades, .ref a0_attempt]))]) (w1 := (wd_Net_cutLast cI cJ cG cZ a0_net a0_net_near a0_net_tail a0_net_head v0_net_nodes v0_net_arcCount_2 v0_net_version_3 w0_net_near_4 w0_net_tail w0_net_head)) hP hD [1, 2, 3, 4] [0] rfl rfl (by decide) (by decide) hk1 hFc hP1 hD1
  have hP : va_P (dC, dI) vwCl (wd_CS_drop cI cJ cG cZ a0 a0_net a0_painter a0_polynomial a0_listCounter a0_setFinder a0_takingApart a0_greedyRun a0_allowed a0_shown a0_shades a0_attempt a0_net_near a0_net_tail a0_net_head v0_net_nodes v0_net_arcCount_2 v0_net_version_3 w0_net_near_4 w0_net_tail w0_net_head) H1 := hP.sub [0, 1, 2, 3, 4] rfl
  have hD : va_D A (wd_CS_drop cI cJ cG cZ a0 a0_net a0_painter a0_polynomial a0_listCounter a0_setFinder a0_takingApart a0_greedyRun a0_allowed a0_shown a0_shades a0_attempt a0_net_near a0_net_tail a0_net_head v0_net_nodes v0_net_arcCount_2 v0_net_version_3 w0_net_near_4 w0_net_tail w0_net_head) := hD.sub [0, 1, 2, 3, 4] (by decide) rfl
  clear hP1 hK1 hD1 hk1 hPc hDc hFc ht hvm hz1
  generalize H1 = H at hP hS ⊢
  cases hm
  exact W.zret (ty := .boolean) hx hb hr (bz_nar hz_8) (fun t ht hW => ⟨⟨_, (), rfl, ⟨rfl, hz_8⟩, by rw [ht]; exact hP, va_K.moved hW.alike hK, hD⟩, hS.F ht⟩) hS.2.2 d_CS_drop_7
theorem d_CS_showPaint_0 : decode prog_1_method_31_code 0 = .ok (.aload_n 0, 1) := by decide +kernel
theorem d_CS_showPaint_1 : decode prog_1_method_31_code 1 = .ok (.getfield 62, 3) := by decide +kernel
theorem d_CS_showPaint_4 : decode prog_1_method_31_code 4 = .ok (.iconst (-1), 1) := by decide +kernel
theorem d_CS_showPaint_5 : decode prog_1_method_31_code 5 = .ok (.invokestatic 71, 3) := by decide +kernel
theorem d_CS_showPaint_8 : decode prog_1_method_31_code 8 = .ok (.aload_n 0, 1) := by decide +kernel
theorem d_CS_showPaint_9 : decode prog_1_method_31_code 9 = .ok (.getfield 19, 3) := by decide +kernel
theorem d_CS_showPaint_12 : decode prog_1_method_31_code 12 = .ok (.getfield 157, 3) := by decide +kernel
theorem d_CS_showPaint_15 : decode prog_1_method_31_code 15 = .ok (.iconst 0, 1) := by decide +kernel
theorem d_CS_showPaint_16 : decode prog_1_method_31_code 16 = .ok (.aload_n 0, 1) := by decide +kernel
theorem d_CS_showPaint_17 : decode prog_1_method_31_code 17 = .ok (.getfield 62, 3) := by decide +kernel
theorem d_CS_showPaint_20 : decode prog_1_method_31_code 20 = .ok (.iconst 0, 1) := by decide +kernel
theorem d_CS_showPaint_21 : decode prog_1_method_31_code 21 = .ok (.aload_n 0, 1) := by decide +kernel
theorem d_CS_showPaint_22 : decode prog_1_method_31_code 22 = .ok (.getfield 12, 3) := by decide +kernel
theorem d_CS_showPaint_25 : decode prog_1_method_31_code 25 = .ok (.getfield 77, 3) := by decide +kernel
theorem d_CS_showPaint_28 : decode prog_1_method_31_code 28 = .ok (.invokestatic 160, 3) := by decide +kernel
theorem d_CS_showPaint_31 : decode prog_1_method_31_code 31 = .ok (.return_, 1) := by decide +kernel
abbrev wd_CS_showPaint (cI cJ cG cZ : ClassId) (a0 a0_net a0_painter a0_polynomial a0_listCounter a0_setFinder a0_takingApart a0_greedyRun a0_allowed a0_shown a0_shades a0_attempt a0_net_near a0_net_tail a0_net_head a0_painter_paint a0_painter_near a0_painter_free a0_painter_uses : Nat) (v0_net_nodes : Int32) (v0_net_arcCount : Int32) (v0_net_version : Int32) (v0_painter_items : Int32) (v0_painter_evenly : Int32) (v0_painter_palette : Int32) (v0_painter_share : Int32) (v0_painter_bigger : Int32) (v0_painter_bigNow : Int32) (w0_painter_paint : Nat → Int32) (w0_shown : Nat → Int32) : va_W := [(a0, .inr (0, [.ref a0_net, .ref a0_painter, .ref a0_polynomial, .ref a0_listCounter, .ref a0_setFinder, .ref a0_takingApart, .ref a0_greedyRun, .ref a0_allowed, .ref a0_shown, .ref a0_shades, .ref a0_attempt])), (a0_net, .inr (1, [.ref a0_net_near, .ref a0_net_tail, .ref a0_net_head, .int v0_net_nodes, .int v0_net_arcCount, .int v0_net_version])), (a0_painter, .inr (2, [.ref a0_painter_paint, .ref a0_painter_near, .ref a0_painter_free, .ref a0_painter_uses, .int v0_painter_items, .int v0_painter_evenly, .int v0_painter_palette, .int v0_painter_share, .int v0_painter_bigger, .int v0_painter_bigNow])), (a0_painter_paint, .inl (cI, 16, .inl w0_painter_paint)), (a0_shown, .inl (cI, 12, .inl w0_shown))]
abbrev us_CS_showPaint : List Cond := .code y_CS_showPaint prog_1_method_31_code 1 none :: gtbl
abbrev rm_CS_showPaint : Room := { frames := 1, cells := 0, slots := 0, locals := 40 }
def m_CS_showPaint (F : Nat) (v0_net_nodes : Int32) (v0_net_arcCount : Int32) (v0_net_version : Int32) (v0_painter_items : Int32) (v0_painter_evenly : Int32) (v0_painter_palette : Int32) (v0_painter_share : Int32) (v0_painter_bigger : Int32) (v0_painter_bigNow : Int32) (w0_painter_paint : Nat → Int32) (w0_shown : Nat → Int32) : Option ((Nat → Int32)) :=
  gC (cpyB (0 : Int32) (0 : Int32) v0_net_nodes 16 12) (
  some (va_cpy w0_painter_paint (fillA 12 ((-1) : Int32) w0_shown) (0 : Int32).toNatClampNeg (0 : Int32).toNatClampNeg v0_net_nodes.toNatClampNeg))
set_option maxHeartbeats 4000000 in
set_option maxRecDepth 100000 in
theorem c_CS_showPaint (l : Launch) (dC : Nat → ClassId) (dI : Nat → Nat → Nat) (cI cJ cG cZ : ClassId) (a0 a0_net a0_painter a0_polynomial a0_listCounter a0_setFinder a0_takingApart a0_greedyRun a0_allowed a0_shown a0_shades a0_attempt a0_net_near a0_net_tail a0_net_head a0_painter_paint a0_painter_near a0_painter_free a0_painter_uses : Nat) (sz : Nat) (F : Nat) (v0_net_nodes : Int32) (v0_net_arcCount : Int32) (v0_net_version : Int32) (v0_painter_items : Int32) (v0_painter_evenly : Int32) (v0_painter_palette : Int32) (v0_painter_share : Int32) (v0_painter_bigger : Int32) (v0_painter_bigNow : Int32) (w0_painter_paint : Nat → Int32) (w0_shown : Nat → Int32) (o_w0_shown : Nat → Int32) (hm : m_CS_showPaint F v0_net_nodes v0_net_arcCount v0_net_version v0_painter_items v0_painter_evenly v0_painter_palette v0_painter_share v0_painter_bigger v0_painter_bigNow w0_painter_paint w0_shown = some o_w0_shown) : Met l y_CS_showPaint us_CS_showPaint rm_CS_showPaint (PcS (dC, dI) (tyL cI cJ cG cZ) [.ref a0] sz (wd_CS_showPaint cI cJ cG cZ a0 a0_net a0_painter a0_polynomial a0_listCounter a0_setFinder a0_takingApart a0_greedyRun a0_allowed a0_shown a0_shades a0_attempt a0_net_near a0_net_tail a0_net_head a0_painter_paint a0_painter_near a0_painter_free a0_painter_uses v0_net_nodes v0_net_arcCount v0_net_version v0_painter_items v0_painter_evenly v0_painter_palette v0_painter_share v0_painter_bigger v0_painter_bigNow w0_painter_paint w0_shown)) (va_Qv (fun (_ : Unit) => True) (fun _ t => PoS (dC, dI) (tyL cI cJ cG cZ) (wd_CS_showPaint cI cJ cG cZ a0 a0_net a0_painter a0_polynomial a0_listCounter a0_setFinder a0_takingApart a0_greedyRun a0_allowed a0_shown a0_shades a0_attempt a0_net_near a0_net_tail a0_net_head a0_painter_paint a0_painter_near a0_painter_free a0_painter_uses v0_net_nodes v0_net_arcCount v0_net_version v0_painter_items v0_painter_evenly v0_painter_palette v0_painter_share v0_painter_bigger v0_painter_bigNow w0_painter_paint o_w0_shown) (va_A (wd_CS_showPaint cI cJ cG cZ a0 a0_net a0_painter a0_polynomial a0_listCounter a0_setFinder a0_takingApart a0_greedyRun a0_allowed a0_shown a0_shades a0_attempt a0_net_near a0_net_tail a0_net_head a0_painter_paint a0_painter_near a0_painter_free a0_painter_uses v0_net_nodes v0_net_arcCount v0_net_version v0_painter_items v0_painter_evenly v0_painter_palette v0_painter_share v0_painter_bigger v0_painter_bigNow w0_painter_paint w0_shown) sz) t) (va_A (wd_CS_showPaint cI cJ cG cZ a0 a0_net a0_painter a0_polynomial a0_listCounter a0_setFinder a0_takingApart a0_greedyRun a0_allowed a0_shown a0_shades a0_attempt a0_net_near a0_net_tail a0_net_head a0_painter_paint a0_painter_near a0_painter_free a0_painter_uses v0_net_nodes v0_net_arcCount v0_net_version v0_painter_items v0_painter_evenly v0_painter_palette v0_painter_share v0_painter_bigger v0_painter_bigNow w0_painter_paint w0_shown) sz)) 0 0 (va_A (wd_CS_showPaint cI cJ cG cZ a0 a0_net a0_painter a0_polynomial a0_listCounter a0_setFinder a0_takingApart a0_greedyRun a0_allowed a0_shown a0_shades a0_attempt a0_net_near a0_net_tail a0_net_head a0_painter_paint a0_painter_near a0_painter_free a0_painter_uses v0_net_nodes v0_net_arcCount v0_net_version v0_painter_items v0_painter_evenly v0_painter_palette v0_painter_share v0_painter_bigger v0_painter_bigNow w0_painter_paint w0_shown) sz) := by
  refine Met.ofW (cc := prog_1_method_31_code) (maxL := 1) (ret := none) (by decide) rfl ?_
  intro p e s m args below meth c s₁ B hml hv
  obtain ⟨rfl, hsz, hP, hK, hD0, hNw⟩ := hv
  have hx := B.exec
  have hb := B.bytes
  have hr := B.returns
  have htt : ∀ w ∈ gtbl, w.before _ s = true := fun w h => atoms_spec (ws := us_CS_showPaint) B.pre w (List.mem_cons_of_mem _ h)
  have hown : s.vm.findClass R_CS = some m.cls := findClass_of_methodNamed B.named
  have hlocks := B.notSynchronized
  subst hsz
  have hD := hD0.self (sz := s.heap.size)
  generalize hAe : va_A (wd_CS_showPaint cI cJ cG cZ a0 a0_net a0_painter a0_polynomial a0_listCounter a0_setFinder a0_takingApart a0_greedyRun a0_allowed a0_shown a0_shades a0_attempt a0_net_near a0_net_tail a0_net_head a0_painter_paint a0_painter_near a0_painter_free a0_painter_uses v0_net_nodes v0_net_arcCount v0_net_version v0_painter_items v0_painter_evenly v0_painter_palette v0_painter_share v0_painter_bigger v0_painter_bigNow w0_painter_paint w0_shown) s.heap.size = A at hD ⊢
  have hA : ∀ q : Nat, s.heap.size ≤ q → A q := fun q h => by rw [← hAe]; exact Or.inr h
  clear hAe hD0
  have hS : va_S A s.heap s.heap [] := va_S.rf
  have hl := lv_entry ([.ref a0]) (n := 1) (Nat.le_of_ble_eq_true rfl)
  rw [lg_entry_eq]
  generalize (lg_sl ([.ref a0]) ++ List.replicate (1 - (lg_sl ([.ref a0])).length) Slot.unset).toArray = ls at hl ⊢
  have hl : lv_has ls 1 [(0, .ref a0)] := hl
  generalize hH : s.heap = H at hP ⊢
  have hS : va_S A s.heap H [] := hH ▸ hS
  generalize hLo : ([] : List Loc) = locs at hS ⊢
  clear hH hLo
  unfold m_CS_showPaint at hm
  refine lv_aload_n hx hb d_CS_showPaint_0 rfl (lv_at hl 0 rfl) ?_
  refine va_get (D := (dC, dI)) (ci := 0) (v := .ref a0_shown) (C := R_CS) (T := T_CS) (N := 11) hx hb htt hin_CS hown hK hP 0 rfl rfl 8 (by decide) (htt _ kt_232) (fun _ h9 => h9) rfl d_CS_showPaint_1 ?_
  refine lv_iconst (v := (-1)) hx hb d_CS_showPaint_4 (by decide) ?_
  refine gx_filli hx hb hml hown htt kt_223 hK hNw hP hD hS hA 4 rfl (by decide) hl.1 (lv_room (Nat.le_of_ble_eq_true rfl)) (Nat.le_of_ble_eq_true rfl) (Nat.le_of_ble_eq_true rfl) (Nat.zero_le _) (Nat.zero_le _) d_CS_showPaint_5 (fun H locs hP hD hS => ?_)
  have hP : va_P (dC, dI) vwCl (wd_CS_showPaint cI cJ cG cZ a0 a0_net a0_painter a0_polynomial a0_listCounter a0_setFinder a0_takingApart a0_greedyRun a0_allowed a0_shown a0_shades a0_attempt a0_net_near a0_net_tail a0_net_head a0_painter_paint a0_painter_near a0_painter_free a0_painter_uses v0_net_nodes v0_net_arcCount v0_net_version v0_painter_items v0_painter_evenly v0_painter_palette v0_painter_share v0_painter_bigger v0_painter_bigNow w0_painter_paint (fillA 12 ((-1) : Int32) w0_shown)) H := hP
  have hD : va_D A (wd_CS_showPaint cI cJ cG cZ a0 a0_net a0_painter a0_polynomial a0_listCounter a0_setFinder a0_takingApart a0_greedyRun a0_allowed a0_shown a0_shades a0_attempt a0_net_near a0_net_tail a0_net_head a0_painter_paint a0_painter_near a0_painter_free a0_painter_uses v0_net_nodes v0_net_arcCount v0_net_version v0_painter_items v0_painter_evenly v0_painter_palette v0_painter_share v0_painter_bigger v0_painter_bigNow w0_painter_paint (fillA 12 ((-1) : Int32) w0_shown)) := hD
  refine lv_aload_n hx hb d_CS_showPaint_8 rfl (lv_at hl 0 rfl) ?_
  refine va_get (D := (dC, dI)) (ci := 0) (v := .ref a0_painter) (C := R_CS) (T := T_CS) (N := 11) hx hb htt hin_CS hown hK hP 0 rfl rfl 1 (by decide) (htt _ kt_225) (fun _ h9 => h9) rfl d_CS_showPaint_9 ?_
  refine va_get (D := (dC, dI)) (ci := 2) (v := .ref a0_painter_paint) (C := R_Pai) (T := T_Pai) (N := 10) hx hb htt hin_Pai hown hK hP 2 rfl rfl 0 (by decide) (htt _ kt_82) (fun _ h9 => h9) rfl d_CS_showPaint_12 ?_
  refine lv_iconst (v := 0) hx hb d_CS_showPaint_15 (by decide) ?_
  refine lv_aload_n hx hb d_CS_showPaint_16 rfl (lv_at hl 0 rfl) ?_
  refine va_get (D := (dC, dI)) (ci := 0) (v := .ref a0_shown) (C := R_CS) (T := T_CS) (N := 11) hx hb htt hin_CS hown hK hP 0 rfl rfl 8 (by decide) (htt _ kt_232) (fun _ h9 => h9) rfl d_CS_showPaint_17 ?_
  refine lv_iconst (v := 0) hx hb d_CS_showPaint_20 (by decide) ?_
  refine lv_aload_n hx hb d_CS_showPaint_21 rfl (lv_at hl 0 rfl) ?_
  refine va_get (D := (dC, dI)) (ci := 0) (v := .ref a0_net) (C := R_CS) (T := T_CS) (N := 11) hx hb htt hin_CS hown hK hP 0 rfl rfl 0 (by decide) (htt _ kt_224) (fun _ h9 => h9) rfl d_CS_showPaint_22 ?_
  refine va_get (D := (dC, dI)) (ci := 1) (v := .int v0_net_nodes) (C := R_Net) (T := T_Net) (N := 6) hx hb htt hin_Net hown hK hP 1 rfl rfl 3 (by decide) (htt _ kt_46) (fun _ h9 => h9) rfl d_CS_showPaint_25 ?_
  obtain ⟨hy_1, hm⟩ := gC_e hm
  refine gx_copy hx hb hml hown htt kt_365 hK hP hD hS 3 4 rfl rfl hy_1 hl.1 (lv_room (Nat.le_of_ble_eq_true rfl)) (Nat.le_of_ble_eq_true rfl) (Nat.le_of_ble_eq_true rfl) d_CS_showPaint_28 (fun H locs hP hD hS => ?_)
  have hP : va_P (dC, dI) vwCl (wd_CS_showPaint cI cJ cG cZ a0 a0_net a0_painter a0_polynomial a0_listCounter a0_setFinder a0_takingApart a0_greedyRun a0_allowed a0_shown a0_shades a0_attempt a0_net_near a0_net_tail a0_net_head a0_painter_paint a0_painter_near a0_painter_free a0_painter_uses v0_net_nodes v0_net_arcCount v0_net_version v0_painter_items v0_painter_evenly v0_painter_palette v0_painter_share v0_painter_bigger v0_painter_bigNow w0_painter_paint (va_cpy w0_painter_paint (fillA 12 ((-1) : Int32) w0_shown) (0 : Int32).toNatClampNeg (0 : Int32).toNatClampNeg v0_net_nodes.toNatClampNeg)) H := hP
  have hD : va_D A (wd_CS_showPaint cI cJ cG cZ a0 a0_net a0_painter a0_polynomial a0_listCounter a0_setFinder a0_takingApart a0_greedyRun a0_allowed a0_shown a0_shades a0_attempt a0_net_near a0_net_tail a0_net_head a0_painter_paint a0_painter_near a0_painter_free a0_painter_uses v0_net_nodes v0_net_arcCount v0_net_version v0_painter_items v0_painter_evenly v0_painter_palette v0_painter_share v0_painter_bigger v0_painter_bigNow w0_painter_paint (va_cpy w0_painter_paint (fillA 12 ((-1) : Int32) w0_shown) (0 : Int32).toNatClampNeg (0 : Int32).toNatClampNeg v0_net_nodes.toNatClampNeg)) := hD
  cases hm
  exact W.vret hx hb hr (fun t ht hW => ⟨⟨(), rfl, trivial, by rw [ht]; exact hP, va_K.moved hW.alike hK, hD⟩, hS.F ht⟩) hS.2.2 d_CS_showPaint_31
theorem d_CS_least_0 : decode prog_1_method_5_code 0 = .ok (.iconst 0, 1) := by decide +kernel
theorem d_CS_least_1 : decode prog_1_method_5_code 1 = .ok (.istore_n 1, 1) := by decide +kernel
theorem d_CS_least_2 : decode prog_1_method_5_code 2 = .ok (.iload_n 1, 1) := by decide +kernel
theorem d_CS_least_3 : decode prog_1_method_5_code 3 = .ok (.bipush 12, 2) := by decide +kernel
theorem d_CS_least_5 : decode prog_1_method_5_code 5 = .ok (.if_icmp .gt 41, 3) := by decide +kernel
theorem d_CS_least_8 : decode prog_1_method_5_code 8 = .ok (.aload_n 0, 1) := by decide +kernel
theorem d_CS_least_9 : decode prog_1_method_5_code 9 = .ok (.getfield 19, 3) := by decide +kernel
theorem d_CS_least_12 : decode prog_1_method_5_code 12 = .ok (.aload_n 0, 1) := by decide +kernel
theorem d_CS_least_13 : decode prog_1_method_5_code 13 = .ok (.getfield 12, 3) := by decide +kernel
theorem d_CS_least_16 : decode prog_1_method_5_code 16 = .ok (.iconst 1, 1) := by decide +kernel
theorem d_CS_least_17 : decode prog_1_method_5_code 17 = .ok (.iload_n 1, 1) := by decide +kernel
theorem d_CS_least_18 : decode prog_1_method_5_code 18 = .ok (.ishl, 1) := by decide +kernel
theorem d_CS_least_19 : decode prog_1_method_5_code 19 = .ok (.iconst 1, 1) := by decide +kernel
theorem d_CS_least_20 : decode prog_1_method_5_code 20 = .ok (.isub, 1) := by decide +kernel
theorem d_CS_least_21 : decode prog_1_method_5_code 21 = .ok (.invokevirtual 100, 3) := by decide +kernel
theorem d_CS_least_24 : decode prog_1_method_5_code 24 = .ok (.aload_n 0, 1) := by decide +kernel
theorem d_CS_least_25 : decode prog_1_method_5_code 25 = .ok (.getfield 19, 3) := by decide +kernel
theorem d_CS_least_28 : decode prog_1_method_5_code 28 = .ok (.invokevirtual 104, 3) := by decide +kernel
theorem d_CS_least_31 : decode prog_1_method_5_code 31 = .ok (.ifCond .eq 9, 3) := by decide +kernel
theorem d_CS_least_34 : decode prog_1_method_5_code 34 = .ok (.aload_n 0, 1) := by decide +kernel
theorem d_CS_least_35 : decode prog_1_method_5_code 35 = .ok (.invokevirtual 107, 3) := by decide +kernel
theorem d_CS_least_38 : decode prog_1_method_5_code 38 = .ok (.iload_n 1, 1) := by decide +kernel
theorem d_CS_least_39 : decode prog_1_method_5_code 39 = .ok (.ireturn, 1) := by decide +kernel
theorem d_CS_least_40 : decode prog_1_method_5_code 40 = .ok (.iinc 1 1, 3) := by decide +kernel
theorem d_CS_least_43 : decode prog_1_method_5_code 43 = .ok (.goto (-41), 3) := by decide +kernel
theorem d_CS_least_46 : decode prog_1_method_5_code 46 = .ok (.iconst (-1), 1) := by decide +kernel
theorem d_CS_least_47 : decode prog_1_method_5_code 47 = .ok (.ireturn, 1) := by decide +kernel
abbrev wd_CS_least (cI cJ cG cZ : ClassId) (a0 a0_net a0_painter a0_polynomial a0_listCounter a0_setFinder a0_takingApart a0_greedyRun a0_allowed a0_shown a0_shades a0_attempt a0_net_near a0_net_tail a0_net_head a0_painter_paint a0_painter_near a0_painter_free a0_painter_uses : Nat) (r0_painter_free : Nat → Nat) (v0_net_nodes : Int32) (v0_net_arcCount : Int32) (v0_net_version : Int32) (w0_net_near : Nat → Int32) (v0_painter_items : Int32) (v0_painter_evenly : Int32) (v0_painter_palette : Int32) (v0_painter_share : Int32) (v0_painter_bigger : Int32) (v0_painter_bigNow : Int32) (w0_painter_paint : Nat → Int32) (w0_painter_near : Nat → Int32) (w0_painter_uses : Nat → Int32) (w0_shown : Nat → Int32) (w0_painter_free : Nat → Nat → Int32) : va_W := [(a0, .inr (0, [.ref a0_net, .ref a0_painter, .ref a0_polynomial, .ref a0_listCounter, .ref a0_setFinder, .ref a0_takingApart, .ref a0_greedyRun, .ref a0_allowed, .ref a0_shown, .ref a0_shades, .ref a0_attempt])), (a0_net, .inr (1, [.ref a0_net_near, .ref a0_net_tail, .ref a0_net_head, .int v0_net_nodes, .int v0_net_arcCount, .int v0_net_version])), (a0_net_near, .inl (cI, 12, .inl w0_net_near)), (a0_painter, .inr (2, [.ref a0_painter_paint, .ref a0_painter_near, .ref a0_painter_free, .ref a0_painter_uses, .int v0_painter_items, .int v0_painter_evenly, .int v0_painter_palette, .int v0_painter_share, .int v0_painter_bigger, .int v0_painter_bigNow])), (a0_painter_paint, .inl (cI, 16, .inl w0_painter_paint)), (a0_painter_near, .inl (cI, 16, .inl w0_painter_near)), (a0_painter_free, .inl (cG, 18, .inr (.inr (.inr (.inr (gO r0_painter_free 18)))))), (a0_painter_uses, .inl (cI, 12, .inl w0_painter_uses)), (a0_shown, .inl (cI, 12, .inl w0_shown))] ++ rowsW r0_painter_free cI 16 18 w0_painter_free
abbrev we_CS_least (cI cJ cG cZ : ClassId) (a0 a0_net a0_painter a0_polynomial a0_listCounter a0_setFinder a0_takingApart a0_greedyRun a0_allowed a0_shown a0_shades a0_attempt a0_net_near a0_net_tail a0_net_head a0_painter_paint a0_painter_near a0_painter_free a0_painter_uses : Nat) (r0_painter_free : Nat → Nat) (v0_net_nodes : Int32) (v0_net_arcCount : Int32) (v0_net_version : Int32) (w0_net_near : Nat → Int32) (v0_painter_items : Int32) (v0_painter_evenly : Int32) (v0_painter_palette : Int32) (v0_painter_share : Int32) (v0_painter_bigger : Int32) (v0_painter_bigNow : Int32) (w0_painter_paint : Nat → Int32) (w0_painter_near : Nat → Int32) (w0_painter_uses : Nat → Int32) (w0_shown : Nat → Int32) (w0_painter_free : Nat → Nat → Int32) : va_W := [(a0, .inr (0, [.ref a0_net, .ref a0_painter, .ref a0_polynomial, .ref a0_listCounter, .ref a0_setFinder, .ref a0_takingApart, .ref a0_greedyRun, .ref a0_allowed, .ref a0_shown, .ref a0_shades, .ref a0_attempt])), (a0_net, .inr (1, [.ref a0_net_near, .ref a0_net_tail, .ref a0_net_head, .int v0_net_nodes, .int v0_net_arcCount, .int v0_net_version])), (a0_net_near, .inl (cI, 12, .inl w0_net_near)), (a0_painter, .inr (2, [.ref a0_painter_paint, .ref a0_painter_near, .ref a0_painter_free, .ref a0_painter_uses, .int v0_painter_items, .int v0_painter_evenly, .int v0_painter_palette, .int v0_painter_share, .int v0_painter_bigger, .int v0_painter_bigNow])), (a0_painter_paint, .inl (cI, 16, .inl w0_painter_paint)), (a0_painter_near, .inl (cI, 16, .inl w0_painter_near)), (a0_painter_free, .inl (cG, 18, .inr (.inr (.inr (.inr (gO r0_painter_free 18)))))), (a0_painter_uses, .inl (cI, 12, .inl w0_painter_uses)), (a0_shown, .inl (cI, 12, .inl w0_shown))]
abbrev us_CS_least : List Cond := .code y_CS_least prog_1_method_5_code 2 (some .int) :: gtbl
abbrev rm_CS_least : Room := { frames := 23, cells := 0, slots := 0, locals := 647 }
def m_CS_least (F : Nat) (v0_net_nodes : Int32) (v0_net_arcCount : Int32) (v0_net_version : Int32) (w0_net_near : Nat → Int32) (v0_painter_items : Int32) (v0_painter_evenly : Int32) (v0_painter_palette : Int32) (v0_painter_share : Int32) (v0_painter_bigger : Int32) (v0_painter_bigNow : Int32) (w0_painter_paint : Nat → Int32) (w0_painter_near : Nat → Int32) (w0_painter_uses : Nat → Int32) (w0_shown : Nat → Int32) (w0_painter_free : Nat → Nat → Int32) : Option (Int32 × Int32 × Int32 × Int32 × Int32 × Int32 × Int32 × (Nat → Int32) × (Nat → Int32) × (Nat → Int32) × (Nat → Int32) × (Nat → Nat → Int32)) :=
  gL (fun (k_2 : (Int32 × Int32 × Int32 × Int32 × Int32 × Int32 × Int32 × (Nat → Int32) × (Nat → Int32) × (Nat → Int32) × (Nat → Nat → Int32)) → Option (Int32 × Int32 × Int32 × Int32 × Int32 × Int32 × Int32 × (Nat → Int32) × (Nat → Int32) × (Nat → Int32) × (Nat → Int32) × (Nat → Nat → Int32))) (z_2 : Int32 × Int32 × Int32 × Int32 × Int32 × Int32 × Int32 × (Nat → Int32) × (Nat → Int32) × (Nat → Int32) × (Nat → Nat → Int32)) => match z_2 with
  | (x1_1, v0_painter_items_2, v0_painter_evenly_3, v0_painter_palette_4, v0_painter_share_5, v0_painter_bigger_6, v0_painter_bigNow_7, w0_painter_paint_8, w0_painter_near_9, w0_painter_uses_10, w0_painter_free_11) =>
  if (12 : Int32) < x1_1 then (
    some ((-1), v0_painter_items_2, v0_painter_evenly_3, v0_painter_palette_4, v0_painter_share_5, v0_painter_bigger_6, v0_painter_bigNow_7, w0_painter_paint_8, w0_painter_near_9, w0_painter_uses_10, w0_shown, w0_painter_free_11)
  ) else (
    gM (m_Pai_startNodes F v0_painter_items_2 v0_painter_evenly_3 v0_painter_palette_4 v0_painter_share_5 v0_painter_bigger_6 v0_painter_bigNow_7 w0_painter_near_9 w0_painter_uses_10 v0_net_nodes v0_net_arcCount v0_net_version w0_net_near w0_painter_free_11 (((1 : Int32) <<< (x1_1 &&& 31)) - 1)) (fun (z_23 : Int32 × Int32 × Int32 × Int32 × Int32 × Int32 × (Nat → Int32) × (Nat → Int32) × (Nat → Nat → Int32)) => match z_23 with
    | (v0_painter_items_13, v0_painter_evenly_14, v0_painter_palette_15, v0_painter_share_16, v0_painter_bigger_17, v0_painter_bigNow_18, w0_painter_near_19, w0_painter_uses_20, w0_painter_free_21) =>
    gM (m_Pai_paintFirst F v0_painter_items_13 v0_painter_evenly_14 v0_painter_palette_15 v0_painter_share_16 v0_painter_bigger_17 v0_painter_bigNow_18 w0_painter_paint_8 w0_painter_near_19 w0_painter_uses_20 w0_painter_free_21) (fun (z_30 : Int32 × Int32 × (Nat → Int32) × (Nat → Int32) × (Nat → Nat → Int32)) => match z_30 with
    | (q_24, v0_painter_bigNow_25, w0_painter_paint_26, w0_painter_uses_27, w0_painter_free_28) =>
    if q_24 = 0 then (
      gB (x1_1 + 1) (fun x1_34 =>
      k_2 (x1_34, v0_painter_items_13, v0_painter_evenly_14, v0_painter_palette_15, v0_painter_share_16, v0_painter_bigger_17, v0_painter_bigNow_25, w0_painter_paint_26, w0_painter_near_19, w0_painter_uses_27, w0_painter_free_28))
    ) else (
      gM (m_CS_showPaint F v0_net_nodes v0_net_arcCount v0_net_version v0_painter_items_13 v0_painter_evenly_14 v0_painter_palette_15 v0_painter_share_16 v0_painter_bigger_17 v0_painter_bigNow_25 w0_painter_paint_26 w0_shown) (fun w0_shown_35 =>
      some (x1_1, v0_painter_items_13, v0_painter_evenly_14, v0_painter_palette_15, v0_painter_share_16, v0_painter_bigger_17, v0_painter_bigNow_25, w0_painter_paint_26, w0_painter_near_19, w0_painter_uses_27, w0_shown_35, w0_painter_free_28))
    )))
  )
  ) F (0, v0_painter_items, v0_painter_evenly, v0_painter_palette, v0_painter_share, v0_painter_bigger, v0_painter_bigNow, w0_painter_paint, w0_painter_near, w0_painter_uses, w0_painter_free)
set_option maxHeartbeats 4000000 in
set_option maxRecDepth 100000 in
theorem c_CS_least (l : Launch) (dC : Nat → ClassId) (dI : Nat → Nat → Nat) (cI cJ cG cZ : ClassId) (a0 a0_net a0_painter a0_polynomial a0_listCounter a0_setFinder a0_takingApart a0_greedyRun a0_allowed a0_shown a0_shades a0_attempt a0_net_near a0_net_tail a0_net_head a0_painter_paint a0_painter_near a0_painter_free a0_painter_uses : Nat) (r0_painter_free : Nat → Nat) (sz : Nat) (F : Nat) (v0_net_nodes : Int32) (v0_net_arcCount : Int32) (v0_net_version : Int32) (w0_net_near : Nat → Int32) (v0_painter_items : Int32) (v0_painter_evenly : Int32) (v0_painter_palette : Int32) (v0_painter_share : Int32) (v0_painter_bigger : Int32) (v0_painter_bigNow : Int32) (w0_painter_paint : Nat → Int32) (w0_painter_near : Nat → Int32) (w0_painter_uses : Nat → Int32) (w0_shown : Nat → Int32) (w0_painter_free : Nat → Nat → Int32) (ret : Int32) (o_v0_painter_items : Int32) (o_v0_painter_evenly : Int32) (o_v0_painter_palette : Int32) (o_v0_painter_share : Int32) (o_v0_painter_bigger : Int32) (o_v0_painter_bigNow : Int32) (o_w0_painter_paint : Nat → Int32) (o_w0_painter_near : Nat → Int32) (o_w0_painter_uses : Nat → Int32) (o_w0_shown : Nat → Int32) (o_w0_painter_free : Nat → Nat → Int32) (hm : m_CS_least F v0_net_nodes v0_net_arcCount v0_net_version w0_net_near v0_painter_items v0_painter_evenly v0_painter_palette v0_painter_share v0_painter_bigger v0_painter_bigNow w0_painter_paint w0_painter_near w0_painter_uses w0_shown w0_painter_free = some (ret, o_v0_painter_items, o_v0_painter_evenly, o_v0_painter_palette, o_v0_painter_share, o_v0_painter_bigger, o_v0_painter_bigNow, o_w0_painter_paint, o_w0_painter_near, o_w0_painter_uses, o_w0_shown, o_w0_painter_free)) : Met l y_CS_least us_CS_least rm_CS_least (PcS (dC, dI) (tyL cI cJ cG cZ) [.ref a0] sz (wd_CS_least cI cJ cG cZ a0 a0_net a0_painter a0_polynomial a0_listCounter a0_setFinder a0_takingApart a0_greedyRun a0_allowed a0_shown a0_shades a0_attempt a0_net_near a0_net_tail a0_net_head a0_painter_paint a0_painter_near a0_painter_free a0_painter_uses r0_painter_free v0_net_nodes v0_net_arcCount v0_net_version w0_net_near v0_painter_items v0_painter_evenly v0_painter_palette v0_painter_share v0_painter_bigger v0_painter_bigNow w0_painter_paint w0_painter_near w0_painter_uses w0_shown w0_painter_free)) (va_Qi (fun (r : Int32) (_ : Unit) => ret = r) (fun _ t => PoS (dC, dI) (tyL cI cJ cG cZ) (wd_CS_least cI cJ cG cZ a0 a0_net a0_painter a0_polynomial a0_listCounter a0_setFinder a0_takingApart a0_greedyRun a0_allowed a0_shown a0_shades a0_attempt a0_net_near a0_net_tail a0_net_head a0_painter_paint a0_painter_near a0_painter_free a0_painter_uses r0_painter_free v0_net_nodes v0_net_arcCount v0_net_version w0_net_near o_v0_painter_items o_v0_painter_evenly o_v0_painter_palette o_v0_painter_share o_v0_painter_bigger o_v0_painter_bigNow o_w0_painter_paint o_w0_painter_near o_w0_painter_uses o_w0_shown o_w0_painter_free) (va_A (wd_CS_least cI cJ cG cZ a0 a0_net a0_painter a0_polynomial a0_listCounter a0_setFinder a0_takingApart a0_greedyRun a0_allowed a0_shown a0_shades a0_attempt a0_net_near a0_net_tail a0_net_head a0_painter_paint a0_painter_near a0_painter_free a0_painter_uses r0_painter_free v0_net_nodes v0_net_arcCount v0_net_version w0_net_near v0_painter_items v0_painter_evenly v0_painter_palette v0_painter_share v0_painter_bigger v0_painter_bigNow w0_painter_paint w0_painter_near w0_painter_uses w0_shown w0_painter_free) sz) t) (va_A (wd_CS_least cI cJ cG cZ a0 a0_net a0_painter a0_polynomial a0_listCounter a0_setFinder a0_takingApart a0_greedyRun a0_allowed a0_shown a0_shades a0_attempt a0_net_near a0_net_tail a0_net_head a0_painter_paint a0_painter_near a0_painter_free a0_painter_uses r0_painter_free v0_net_nodes v0_net_arcCount v0_net_version w0_net_near v0_painter_items v0_painter_evenly v0_painter_palette v0_painter_share v0_painter_bigger v0_painter_bigNow w0_painter_paint w0_painter_near w0_painter_uses w0_shown w0_painter_free) sz)) 0 0 (va_A (wd_CS_least cI cJ cG cZ a0 a0_net a0_painter a0_polynomial a0_listCounter a0_setFinder a0_takingApart a0_greedyRun a0_allowed a0_shown a0_shades a0_attempt a0_net_near a0_net_tail a0_net_head a0_painter_paint a0_painter_near a0_painter_free a0_painter_uses r0_painter_free v0_net_nodes v0_net_arcCount v0_net_version w0_net_near v0_painter_items v0_painter_evenly v0_painter_palette v0_painter_share v0_painter_bigger v0_painter_bigNow w0_painter_paint w0_painter_near w0_painter_uses w0_shown w0_painter_free) sz) := by
  refine Met.ofW (cc := prog_1_method_5_code) (maxL := 2) (ret := (some .int)) (by decide) rfl ?_
  intro p e s m args below meth c s₁ B hml hv
  obtain ⟨rfl, hsz, hP, hK, hD0, hNw⟩ := hv
  have hx := B.exec
  have hb := B.bytes
  have hr := B.returns
  have htt : ∀ w ∈ gtbl, w.before _ s = true := fun w h => atoms_spec (ws := us_CS_least) B.pre w (List.mem_cons_of_mem _ h)
  have hown : s.vm.findClass R_CS = some m.cls := findClass_of_methodNamed B.named
  have hlocks := B.notSynchronized
  subst hsz
  have hD := hD0.self (sz := s.heap.size)
  generalize hAe : va_A (wd_CS_least cI cJ cG cZ a0 a0_net a0_painter a0_polynomial a0_listCounter a0_setFinder a0_takingApart a0_greedyRun a0_allowed a0_shown a0_shades a0_attempt a0_net_near a0_net_tail a0_net_head a0_painter_paint a0_painter_near a0_painter_free a0_painter_uses r0_painter_free v0_net_nodes v0_net_arcCount v0_net_version w0_net_near v0_painter_items v0_painter_evenly v0_painter_palette v0_painter_share v0_painter_bigger v0_painter_bigNow w0_painter_paint w0_painter_near w0_painter_uses w0_shown w0_painter_free) s.heap.size = A at hD ⊢
  have hA : ∀ q : Nat, s.heap.size ≤ q → A q := fun q h => by rw [← hAe]; exact Or.inr h
  clear hAe hD0
  have hS : va_S A s.heap s.heap [] := va_S.rf
  have hl := lv_entry ([.ref a0]) (n := 2) (Nat.le_of_ble_eq_true rfl)
  rw [lg_entry_eq]
  generalize (lg_sl ([.ref a0]) ++ List.replicate (2 - (lg_sl ([.ref a0])).length) Slot.unset).toArray = ls at hl ⊢
  have hl : lv_has ls 2 [(0, .ref a0)] := hl
  generalize hH : s.heap = H at hP ⊢
  have hS : va_S A s.heap H [] := hH ▸ hS
  generalize hLo : ([] : List Loc) = locs at hS ⊢
  clear hH hLo
  unfold m_CS_least at hm
  refine lv_iconst (v := 0) hx hb d_CS_least_0 (by decide) ?_
  refine lv_istore_n (lv' := [(1, .int 0), (0, .ref a0)]) hx hb d_CS_least_1 rfl hl (by decide) rfl (fun ls hl => ?_)
  refine gL_e (P := (fun (z_2 : Int32 × Int32 × Int32 × Int32 × Int32 × Int32 × Int32 × (Nat → Int32) × (Nat → Int32) × (Nat → Int32) × (Nat → Nat → Int32)) => ∀ (x1_1 : Int32), ∀ (v0_painter_items_2 : Int32), ∀ (v0_painter_evenly_3 : Int32), ∀ (v0_painter_palette_4 : Int32), ∀ (v0_painter_share_5 : Int32), ∀ (v0_painter_bigger_6 : Int32), ∀ (v0_painter_bigNow_7 : Int32), ∀ (w0_painter_paint_8 : Nat → Int32), ∀ (w0_painter_near_9 : Nat → Int32), ∀ (w0_painter_uses_10 : Nat → Int32), ∀ (w0_painter_free_11 : Nat → Nat → Int32), z_2 = (x1_1, v0_painter_items_2, v0_painter_evenly_3, v0_painter_palette_4, v0_painter_share_5, v0_painter_bigger_6, v0_painter_bigNow_7, w0_painter_paint_8, w0_painter_near_9, w0_painter_uses_10, w0_painter_free_11) → ∀ (ls : Array Slot) (H : Heap) (locs : List Loc), lv_has ls 2 [(0, .ref a0), (1, .int x1_1)] → va_P (dC, dI) vwCl (wd_CS_least cI cJ cG cZ a0 a0_net a0_painter a0_polynomial a0_listCounter a0_setFinder a0_takingApart a0_greedyRun a0_allowed a0_shown a0_shades a0_attempt a0_net_near a0_net_tail a0_net_head a0_painter_paint a0_painter_near a0_painter_free a0_painter_uses r0_painter_free v0_net_nodes v0_net_arcCount v0_net_version w0_net_near v0_painter_items_2 v0_painter_evenly_3 v0_painter_palette_4 v0_painter_share_5 v0_painter_bigger_6 v0_painter_bigNow_7 w0_painter_paint_8 w0_painter_near_9 w0_painter_uses_10 w0_shown w0_painter_free_11) H → va_D A (wd_CS_least cI cJ cG cZ a0 a0_net a0_painter a0_polynomial a0_listCounter a0_setFinder a0_takingApart a0_greedyRun a0_allowed a0_shown a0_shades a0_attempt a0_net_near a0_net_tail a0_net_head a0_painter_paint a0_painter_near a0_painter_free a0_painter_uses r0_painter_free v0_net_nodes v0_net_arcCount v0_net_version w0_net_near v0_painter_items_2 v0_painter_evenly_3 v0_painter_palette_4 v0_painter_share_5 v0_painter_bigger_6 v0_painter_bigNow_7 w0_painter_paint_8 w0_painter_near_9 w0_painter_uses_10 w0_shown w0_painter_free_11) → va_S A s.heap H locs → W p l e (headSpec us_CS_least rm_CS_least).room s m ([.ref a0] : List Value).toArray below meth c H locs 0 0 (MQ below (va_Qi (fun (r : Int32) (_ : Unit) => ret = r) (fun _ t => PoS (dC, dI) (tyL cI cJ cG cZ) (wd_CS_least cI cJ cG cZ a0 a0_net a0_painter a0_polynomial a0_listCounter a0_setFinder a0_takingApart a0_greedyRun a0_allowed a0_shown a0_shades a0_attempt a0_net_near a0_net_tail a0_net_head a0_painter_paint a0_painter_near a0_painter_free a0_painter_uses r0_painter_free v0_net_nodes v0_net_arcCount v0_net_version w0_net_near o_v0_painter_items o_v0_painter_evenly o_v0_painter_palette o_v0_painter_share o_v0_painter_bigger o_v0_painter_bigNow o_w0_painter_paint o_w0_painter_near o_w0_painter_uses o_w0_shown o_w0_painter_free) A t) A) ([.ref a0] : List Value).toArray s 0 0 A) (F0 m 2 ls []))) hm (fun k_2 z_2 ih_2 hm => ?_) _ _ _ _ _ _ _ _ _ _ _ rfl ls H locs (lv_sub hl [1, 0] rfl) hP hD hS
  intro x1_1 v0_painter_items_2 v0_painter_evenly_3 v0_painter_palette_4 v0_painter_share_5 v0_painter_bigger_6 v0_painter_bigNow_7 w0_painter_paint_8 w0_painter_near_9 w0_painter_uses_10 w0_painter_free_11 hz ls H locs hl hP hD hS
  subst hz
  dsimp only at hm
  refine lv_iload_n hx hb d_CS_least_2 rfl (lv_at hl 1 rfl) ?_
  refine lv_bipush (v := 12) hx hb d_CS_least_3 (by decide) ?_
  refine lv_icmp_gt (tgt := 46) hx hb d_CS_least_5 (by decide) (fun c_12 => ?_) (fun c_12 => ?_)
  · have hm := ite_t c_12 hm
    refine lv_iconst (v := (-1)) hx hb d_CS_least_46 (by decide) ?_
    cases hm
    exact W.iret hx hb hr (fun t ht hW => ⟨⟨_, (), rfl, rfl, by rw [ht]; exact hP, va_K.moved hW.alike hK, hD⟩, hS.F ht⟩) hS.2.2 d_CS_least_47
  · have hm := ite_f c_12 hm
    refine lv_aload_n hx hb d_CS_least_8 rfl (lv_at hl 0 rfl) ?_
    refine va_get (D := (dC, dI)) (ci := 0) (v := .ref a0_painter) (C := R_CS) (T := T_CS) (N := 11) hx hb htt hin_CS hown hK hP 0 rfl rfl 1 (by decide) (htt _ kt_225) (fun _ h9 => h9) rfl d_CS_least_9 ?_
    refine lv_aload_n hx hb d_CS_least_12 rfl (lv_at hl 0 rfl) ?_
    refine va_get (D := (dC, dI)) (ci := 0) (v := .ref a0_net) (C := R_CS) (T := T_CS) (N := 11) hx hb htt hin_CS hown hK hP 0 rfl rfl 0 (by decide) (htt _ kt_224) (fun _ h9 => h9) rfl d_CS_least_13 ?_
    refine lv_iconst (v := 1) hx hb d_CS_least_16 (by decide) ?_
    refine lv_iload_n hx hb d_CS_least_17 rfl (lv_at hl 1 rfl) ?_
    refine lv_ishl hx hb d_CS_least_18 ?_
    refine lv_iconst (v := 1) hx hb d_CS_least_19 (by decide) ?_
    refine lv_isub hx hb d_CS_least_20 ?_
    obtain ⟨⟨v0_painter_items_13, v0_painter_evenly_14, v0_painter_palette_15, v0_painter_share_16, v0_painter_bigger_17, v0_painter_bigNow_18, w0_painter_near_19, w0_painter_uses_20, w0_painter_free_21⟩, hc_22, hm⟩ := gM_e hm
    dsimp only at hm
    have hPc : va_P (dC, dI) vwCl (wd_Pai_startNodes cI cJ cG cZ a0_painter a0_net a0_painter_paint a0_painter_near a0_painter_free a0_painter_uses a0_net_near a0_net_tail a0_net_head r0_painter_free v0_painter_items_2 v0_painter_evenly_3 v0_painter_palette_4 v0_painter_share_5 v0_painter_bigger_6 v0_painter_bigNow_7 w0_painter_near_9 w0_painter_uses_10 v0_net_nodes v0_net_arcCount v0_net_version w0_net_near w0_painter_free_11) H := hP.part [3, 5, 6, 7, 1, 2] rfl
    have hDc : va_D A (wd_Pai_startNodes cI cJ cG cZ a0_painter a0_net a0_painter_paint a0_painter_near a0_painter_free a0_painter_uses a0_net_near a0_net_tail a0_net_head r0_painter_free v0_painter_items_2 v0_painter_evenly_3 v0_painter_palette_4 v0_painter_share_5 v0_painter_bigger_6 v0_painter_bigNow_7 w0_painter_near_9 w0_painter_uses_10 v0_net_nodes v0_net_arcCount v0_net_version w0_net_near w0_painter_free_11) := hD.part [3, 5, 6, 7, 1, 2] (by decide) rfl
    have hFc : ∀ q, va_A (wd_Pai_startNodes cI cJ cG cZ a0_painter a0_net a0_painter_paint a0_painter_near a0_painter_free a0_painter_uses a0_net_near a0_net_tail a0_net_head r0_painter_free v0_painter_items_2 v0_painter_evenly_3 v0_painter_palette_4 v0_painter_share_5 v0_painter_bigger_6 v0_painter_bigNow_7 w0_painter_near_9 w0_painter_uses_10 v0_net_nodes v0_net_arcCount v0_net_version w0_net_near w0_painter_free_11) H.size q → A q := va_freeP hD hS hA [3, 5, 6, 7, 1, 2] rfl
    refine va_callv (va_runV (As := [.ref a0_net, .int (((1 : Int32) <<< (x1_1 &&& 31)) - 1)]) (rest := []) ⟨hx, hb, hml, hown, htt⟩ (c_Pai_startNodes l dC dI cI cJ cG cZ a0_painter a0_net a0_painter_paint a0_painter_near a0_painter_free a0_painter_uses a0_net_near a0_net_tail a0_net_head r0_painter_free H.size F v0_painter_items_2 v0_painter_evenly_3 v0_painter_palette_4 v0_painter_share_5 v0_painter_bigger_6 v0_painter_bigNow_7 w0_painter_near_9 w0_painter_uses_10 v0_net_nodes v0_net_arcCount v0_net_version w0_net_near w0_painter_free_11 (((1 : Int32) <<< (x1_1 &&& 31)) - 1) v0_painter_items_13 v0_painter_evenly_14 v0_painter_palette_15 v0_painter_share_16 v0_painter_bigger_17 v0_painter_bigNow_18 w0_painter_near_19 w0_painter_uses_20 w0_painter_free_21 hc_22) (cwV 2 htt (gdV kt_294 kt_295 kt_296 kt_3 kt_297) rfl rfl rfl (by decide +kernel) ⟨(Nat.le_of_ble_eq_true rfl), (Nat.le_of_ble_eq_true rfl)⟩) ⟨PcS_blind, va_recv hK hPc (ci := 2) (q0 := 0) rfl rfl, PcS_in hPc hK hDc hNw⟩ rfl rfl hl.1 rfl (lv_room (Nat.le_of_ble_eq_true rfl)) d_CS_least_21 ⟨Nat.zero_le _, Nat.zero_le _⟩) hS (fun q _ h => hFc q h) hFc (fun u t H1 locs ht hvm hw hB hz1 hk1 hS => ?_)
    obtain ⟨hP1, hK1, hD1⟩ := hB
    rw [ht] at hP1
    obtain ⟨hP, hD⟩ := va_joinP (wr := [(a0, .inr (0, [.ref a0_net, .ref a0_painter, .ref a0_polynomial, .ref a0_listCounter, .ref a0_setFinder, .ref a0_takingApart, .ref a0_greedyRun, .ref a0_allowed, .ref a0_shown, .ref a0_shades, .ref a0_attempt])), (a0_painter_paint, .inl (cI, 16, .inl w0_painter_paint_8)), (a0_shown, .inl (cI, 12, .inl w0_shown))]) (rx := (we_Pai_startNodes cI cJ cG cZ a0_painter a0_net a0_painter_paint a0_painter_near a0_painter_free a0_painter_uses a0_net_near a0_net_tail a0_net_head r0_painter_free v0_painter_items_13 v0_painter_evenly_14 v0_painter_palette_15 v0_painter_share_16 v0_painter_bigger_17 v0_painter_bigNow_18 w0_painter_near_19 w0_painter_uses_20 v0_net_nodes v0_net_arcCount v0_net_version w0_net_near w0_painter_free_21)) hP hD [3, 5, 6, 7, 1, 2] [0, 4, 8] rfl rfl (by decide) (by decide) hk1 hFc hP1 hD1
    have hP : va_P (dC, dI) vwCl (wd_CS_least cI cJ cG cZ a0 a0_net a0_painter a0_polynomial a0_listCounter a0_setFinder a0_takingApart a0_greedyRun a0_allowed a0_shown a0_shades a0_attempt a0_net_near a0_net_tail a0_net_head a0_painter_paint a0_painter_near a0_painter_free a0_painter_uses r0_painter_free v0_net_nodes v0_net_arcCount v0_net_version w0_net_near v0_painter_items_13 v0_painter_evenly_14 v0_painter_palette_15 v0_painter_share_16 v0_painter_bigger_17 v0_painter_bigNow_18 w0_painter_paint_8 w0_painter_near_19 w0_painter_uses_20 w0_shown w0_painter_free_21) H1 := hP.part [0, 7, 8, 3, 1, 4, 5, 6, 2] rfl
    have hD : va_D A (wd_CS_least cI cJ cG cZ a0 a0_net a0_painter a0_polynomial a0_listCounter a0_setFinder a0_takingApart a0_greedyRun a0_allowed a0_shown a0_shades a0_attempt a0_net_near a0_net_tail a0_net_head a0_painter_paint a0_painter_near a0_painter_free a0_painter_uses r0_painter_free v0_net_nodes v0_net_arcCount v0_net_version w0_net_near v0_painter_items_13 v0_painter_evenly_14 v0_painter_palette_15 v0_painter_share_16 v0_painter_bigger_17 v0_painter_bigNow_18 w0_painter_paint_8 w0_painter_near_19 w0_painter_uses_20 w0_shown w0_painter_free_21) := hD.part [0, 7, 8, 3, 1, 4, 5, 6, 2] (by decide) rfl
    clear hP1 hK1 hD1 hk1 hPc hDc hFc ht hvm hz1
    generalize H1 = H at hP hS ⊢
    refine lv_aload_n hx hb d_CS_least_24 rfl (lv_at hl 0 rfl) ?_
    refine va_get (D := (dC, dI)) (ci := 0) (v := .ref a0_painter) (C := R_CS) (T := T_CS) (N := 11) hx hb htt hin_CS hown hK hP 0 rfl rfl 1 (by decide) (htt _ kt_225) (fun _ h9 => h9) rfl d_CS_least_25 ?_
    obtain ⟨⟨q_24, v0_painter_bigNow_25, w0_painter_paint_26, w0_painter_uses_27, w0_painter_free_28⟩, hc_29, hm⟩ := gM_e hm
    dsimp only at hm
    have hPc : va_P (dC, dI) vwCl (wd_Pai_paintFirst cI cJ cG cZ a0_painter a0_painter_paint a0_painter_near a0_painter_free a0_painter_uses r0_painter_free v0_painter_items_13 v0_painter_evenly_14 v0_painter_palette_15 v0_painter_share_16 v0_painter_bigger_17 v0_painter_bigNow_18 w0_painter_paint_8 w0_painter_near_19 w0_painter_uses_20 w0_painter_free_21) H := hP.part [3, 4, 5, 6, 7] rfl
    have hDc : va_D A (wd_Pai_paintFirst cI cJ cG cZ a0_painter a0_painter_paint a0_painter_near a0_painter_free a0_painter_uses r0_painter_free v0_painter_items_13 v0_painter_evenly_14 v0_painter_palette_15 v0_painter_share_16 v0_painter_bigger_17 v0_painter_bigNow_18 w0_painter_paint_8 w0_painter_near_19 w0_painter_uses_20 w0_painter_free_21) := hD.part [3, 4, 5, 6, 7] (by decide) rfl
    have hFc : ∀ q, va_A (wd_Pai_paintFirst cI cJ cG cZ a0_painter a0_painter_paint a0_painter_near a0_painter_free a0_painter_uses r0_painter_free v0_painter_items_13 v0_painter_evenly_14 v0_painter_palette_15 v0_painter_share_16 v0_painter_bigger_17 v0_painter_bigNow_18 w0_painter_paint_8 w0_painter_near_19 w0_painter_uses_20 w0_painter_free_21) H.size q → A q := va_freeP hD hS hA [3, 4, 5, 6, 7] rfl
    refine va_calli (va_runV (As := []) (rest := []) ⟨hx, hb, hml, hown, htt⟩ (c_Pai_paintFirst l dC dI cI cJ cG cZ a0_painter a0_painter_paint a0_painter_near a0_painter_free a0_painter_uses r0_painter_free H.size F v0_painter_items_13 v0_painter_evenly_14 v0_painter_palette_15 v0_painter_share_16 v0_painter_bigger_17 v0_painter_bigNow_18 w0_painter_paint_8 w0_painter_near_19 w0_painter_uses_20 w0_painter_free_21 q_24 v0_painter_bigNow_25 w0_painter_paint_26 w0_painter_uses_27 w0_painter_free_28 hc_29) (cwV 0 htt (gdV kt_306 kt_307 kt_308 kt_3 kt_309) rfl rfl rfl (by decide +kernel) ⟨(Nat.le_of_ble_eq_true rfl), (Nat.le_of_ble_eq_true rfl)⟩) ⟨PcS_blind, va_recv hK hPc (ci := 2) (q0 := 0) rfl rfl, PcS_in hPc hK hDc hNw⟩ rfl rfl hl.1 rfl (lv_room (Nat.le_of_ble_eq_true rfl)) d_CS_least_28 ⟨Nat.zero_le _, Nat.zero_le _⟩) hS (fun q _ h => hFc q h) hFc (fun r_31 u t H1 locs ht hvm hw hB hz1 hk1 hS => ?_)
    obtain ⟨hP1, hK1, hD1⟩ := hB
    rw [ht] at hP1
    obtain ⟨hw, hz_32⟩ := hw
    subst hw
    obtain ⟨hP, hD⟩ := va_joinP (wr := [(a0, .inr (0, [.ref a0_net, .ref a0_painter, .ref a0_polynomial, .ref a0_listCounter, .ref a0_setFinder, .ref a0_takingApart, .ref a0_greedyRun, .ref a0_allowed, .ref a0_shown, .ref a0_shades, .ref a0_attempt])), (a0_net, .inr (1, [.ref a0_net_near, .ref a0_net_tail, .ref a0_net_head, .int v0_net_nodes, .int v0_net_arcCount, .int v0_net_version])), (a0_net_near, .inl (cI, 12, .inl w0_net_near)), (a0_shown, .inl (cI, 12, .inl w0_shown))]) (rx := (we_Pai_paintFirst cI cJ cG cZ a0_painter a0_painter_paint a0_painter_near a0_painter_free a0_painter_uses r0_painter_free v0_painter_items_13 v0_painter_evenly_14 v0_painter_palette_15 v0_painter_share_16 v0_painter_bigger_17 v0_painter_bigNow_25 w0_painter_paint_26 w0_painter_near_19 w0_painter_uses_27 w0_painter_free_28)) hP hD [3, 4, 5, 6, 7] [0, 1, 2, 8] rfl rfl (by decide) (by decide) hk1 hFc hP1 hD1
    have hP : va_P (dC, dI) vwCl (wd_CS_least cI cJ cG cZ a0 a0_net a0_painter a0_polynomial a0_listCounter a0_setFinder a0_takingApart a0_greedyRun a0_allowed a0_shown a0_shades a0_attempt a0_net_near a0_net_tail a0_net_head a0_painter_paint a0_painter_near a0_painter_free a0_painter_uses r0_painter_free v0_net_nodes v0_net_arcCount v0_net_version w0_net_near v0_painter_items_13 v0_painter_evenly_14 v0_painter_palette_15 v0_painter_share_16 v0_painter_bigger_17 v0_painter_bigNow_25 w0_painter_paint_26 w0_painter_near_19 w0_painter_uses_27 w0_shown w0_painter_free_28) H1 := hP.part [0, 1, 2, 4, 5, 6, 7, 8, 3] rfl
    have hD : va_D A (wd_CS_least cI cJ cG cZ a0 a0_net a0_painter a0_polynomial a0_listCounter a0_setFinder a0_takingApart a0_greedyRun a0_allowed a0_shown a0_shades a0_attempt a0_net_near a0_net_tail a0_net_head a0_painter_paint a0_painter_near a0_painter_free a0_painter_uses r0_painter_free v0_net_nodes v0_net_arcCount v0_net_version w0_net_near v0_painter_items_13 v0_painter_evenly_14 v0_painter_palette_15 v0_painter_share_16 v0_painter_bigger_17 v0_painter_bigNow_25 w0_painter_paint_26 w0_painter_near_19 w0_painter_uses_27 w0_shown w0_painter_free_28) := hD.part [0, 1, 2, 4, 5, 6, 7, 8, 3] (by decide) rfl
    clear hP1 hK1 hD1 hk1 hPc hDc hFc ht hvm hz1
    generalize H1 = H at hP hS ⊢
    refine lv_if_eq (tgt := 40) hx hb d_CS_least_31 (by decide) (fun c_33 => ?_) (fun c_33 => ?_)
    · have hm := ite_t c_33 hm
      obtain ⟨x1_34, ex1_34⟩ : ∃ y : Int32, y = x1_1 + 1 := ⟨_, rfl⟩
      have hm := gB_at ex1_34 hm
      refine lv_iinc (v := x1_34) (lv' := [(1, .int x1_34), (0, .ref a0)]) hx hb d_CS_least_40 hl (k := 1) rfl (by rw [ex1_34]; rfl) (by decide) rfl (fun ls hl => ?_)
      refine lv_goto (tgt := 2) hx hb d_CS_least_43 (by decide) ?_
      exact ih_2 _ hm _ _ _ _ _ _ _ _ _ _ _ rfl ls H locs (lv_sub hl [1, 0] rfl) hP hD hS
    · have hm := ite_f c_33 hm
      refine lv_aload_n hx hb d_CS_least_34 rfl (lv_at hl 0 rfl) ?_
      obtain ⟨w0_shown_35, hc_36, hm⟩ := gM_e hm
      have hPc : va_P (dC, dI) vwCl (wd_CS_showPaint cI cJ cG cZ a0 a0_net a0_painter a0_polynomial a0_listCounter a0_setFinder a0_takingApart a0_greedyRun a0_allowed a0_shown a0_shades a0_attempt a0_net_near a0_net_tail a0_net_head a0_painter_paint a0_painter_near a0_painter_free a0_painter_uses v0_net_nodes v0_net_arcCount v0_net_version v0_painter_items_13 v0_painter_evenly_14 v0_painter_palette_15 v0_painter_share_16 v0_painter_bigger_17 v0_painter_bigNow_25 w0_painter_paint_26 w0_shown) H := hP.sub [0, 1, 3, 4, 8] rfl
      have hDc : va_D A (wd_CS_showPaint cI cJ cG cZ a0 a0_net a0_painter a0_polynomial a0_listCounter a0_setFinder a0_takingApart a0_greedyRun a0_allowed a0_shown a0_shades a0_attempt a0_net_near a0_net_tail a0_net_head a0_painter_paint a0_painter_near a0_painter_free a0_painter_uses v0_net_nodes v0_net_arcCount v0_net_version v0_painter_items_13 v0_painter_evenly_14 v0_painter_palette_15 v0_painter_share_16 v0_painter_bigger_17 v0_painter_bigNow_25 w0_painter_paint_26 w0_shown) := hD.sub [0, 1, 3, 4, 8] (by decide) rfl
      have hFc : ∀ q, va_A (wd_CS_showPaint cI cJ cG cZ a0 a0_net a0_painter a0_polynomial a0_listCounter a0_setFinder a0_takingApart a0_greedyRun a0_allowed a0_shown a0_shades a0_attempt a0_net_near a0_net_tail a0_net_head a0_painter_paint a0_painter_near a0_painter_free a0_painter_uses v0_net_nodes v0_net_arcCount v0_net_version v0_painter_items_13 v0_painter_evenly_14 v0_painter_palette_15 v0_painter_share_16 v0_painter_bigger_17 v0_painter_bigNow_25 w0_painter_paint_26 w0_shown) H.size q → A q := va_free hD hS hA [0, 1, 3, 4, 8] rfl
      refine va_callv (va_runV (As := []) (rest := []) ⟨hx, hb, hml, hown, htt⟩ (c_CS_showPaint l dC dI cI cJ cG cZ a0 a0_net a0_painter a0_polynomial a0_listCounter a0_setFinder a0_takingApart a0_greedyRun a0_allowed a0_shown a0_shades a0_attempt a0_net_near a0_net_tail a0_net_head a0_painter_paint a0_painter_near a0_painter_free a0_painter_uses H.size F v0_net_nodes v0_net_arcCount v0_net_version v0_painter_items_13 v0_painter_evenly_14 v0_painter_palette_15 v0_painter_share_16 v0_painter_bigger_17 v0_painter_bigNow_25 w0_painter_paint_26 w0_shown w0_shown_35 hc_36) (cwV 0 htt (gdV kt_361 kt_363 kp_12 kt_1 kt_364) rfl rfl rfl (by decide +kernel) ⟨(Nat.le_of_ble_eq_true rfl), (Nat.le_of_ble_eq_true rfl)⟩) ⟨PcS_blind, va_recv hK hPc (ci := 0) (q0 := 0) rfl rfl, PcS_in hPc hK hDc hNw⟩ rfl rfl hl.1 rfl (lv_room (Nat.le_of_ble_eq_true rfl)) d_CS_least_35 ⟨Nat.zero_le _, Nat.zero_le _⟩) hS (fun q _ h => hFc q h) hFc (fun u t H1 locs ht hvm hw hB hz1 hk1 hS => ?_)
      obtain ⟨hP1, hK1, hD1⟩ := hB
      rw [ht] at hP1
      obtain ⟨hP, hD⟩ := va_joinQ (wr := [(a0_net_near, .inl (cI, 12, .inl w0_net_near)), (a0_painter_near, .inl (cI, 16, .inl w0_painter_near_19)), (a0_painter_free, .inl (cG, 18, .inr (.inr (.inr (.inr (gO r0_painter_free 18)))))), (a0_painter_uses, .inl (cI, 12, .inl w0_painter_uses_27))]) (w1 := (wd_CS_showPaint cI cJ cG cZ a0 a0_net a0_painter a0_polynomial a0_listCounter a0_setFinder a0_takingApart a0_greedyRun a0_allowed a0_shown a0_shades a0_attempt a0_net_near a0_net_tail a0_net_head a0_painter_paint a0_painter_near a0_painter_free a0_painter_uses v0_net_nodes v0_net_arcCount v0_net_version v0_painter_items_13 v0_painter_evenly_14 v0_painter_palette_15 v0_painter_share_16 v0_painter_bigger_17 v0_painter_bigNow_25 w0_painter_paint_26 w0_shown_35)) hP hD [0, 1, 3, 4, 8] [2, 5, 6, 7] rfl rfl (by decide) (by decide) hk1 hFc hP1 hD1
      have hP : va_P (dC, dI) vwCl (wd_CS_least cI cJ cG cZ a0 a0_net a0_painter a0_polynomial a0_listCounter a0_setFinder a0_takingApart a0_greedyRun a0_allowed a0_shown a0_shades a0_attempt a0_net_near a0_net_tail a0_net_head a0_painter_paint a0_painter_near a0_painter_free a0_painter_uses r0_painter_free v0_net_nodes v0_net_arcCount v0_net_version w0_net_near v0_painter_items_13 v0_painter_evenly_14 v0_painter_palette_15 v0_painter_share_16 v0_painter_bigger_17 v0_painter_bigNow_25 w0_painter_paint_26 w0_painter_near_19 w0_painter_uses_27 w0_shown_35 w0_painter_free_28) H1 := hP.part [4, 5, 0, 6, 7, 1, 2, 3, 8] rfl
      have hD : va_D A (wd_CS_least cI cJ cG cZ a0 a0_net a0_painter a0_polynomial a0_listCounter a0_setFinder a0_takingApart a0_greedyRun a0_allowed a0_shown a0_shades a0_attempt a0_net_near a0_net_tail a0_net_head a0_painter_paint a0_painter_near a0_painter_free a0_painter_uses r0_painter_free v0_net_nodes v0_net_arcCount v0_net_version w0_net_near v0_painter_items_13 v0_painter_evenly_14 v0_painter_palette_15 v0_painter_share_16 v0_painter_bigger_17 v0_painter_bigNow_25 w0_painter_paint_26 w0_painter_near_19 w0_painter_uses_27 w0_shown_35 w0_painter_free_28) := hD.part [4, 5, 0, 6, 7, 1, 2, 3, 8] (by decide) rfl
      clear hP1 hK1 hD1 hk1 hPc hDc hFc ht hvm hz1
      generalize H1 = H at hP hS ⊢
      refine lv_iload_n hx hb d_CS_least_38 rfl (lv_at hl 1 rfl) ?_
      cases hm
      exact W.iret hx hb hr (fun t ht hW => ⟨⟨_, (), rfl, rfl, by rw [ht]; exact hP, va_K.moved hW.alike hK, hD⟩, hS.F ht⟩) hS.2.2 d_CS_least_39
theorem d_CS_showWhether_0 : decode prog_1_method_32_code 0 = .ok (.iload_n 1, 1) := by decide +kernel
theorem d_CS_showWhether_1 : decode prog_1_method_32_code 1 = .ok (.ifCond .eq 9, 3) := by decide +kernel
theorem d_CS_showWhether_4 : decode prog_1_method_32_code 4 = .ok (.aload_n 0, 1) := by decide +kernel
theorem d_CS_showWhether_5 : decode prog_1_method_32_code 5 = .ok (.invokevirtual 107, 3) := by decide +kernel
theorem d_CS_showWhether_8 : decode prog_1_method_32_code 8 = .ok (.iconst 1, 1) := by decide +kernel
theorem d_CS_showWhether_9 : decode prog_1_method_32_code 9 = .ok (.ireturn, 1) := by decide +kernel
theorem d_CS_showWhether_10 : decode prog_1_method_32_code 10 = .ok (.aload_n 0, 1) := by decide +kernel
theorem d_CS_showWhether_11 : decode prog_1_method_32_code 11 = .ok (.getfield 62, 3) := by decide +kernel
theorem d_CS_showWhether_14 : decode prog_1_method_32_code 14 = .ok (.iconst (-1), 1) := by decide +kernel
theorem d_CS_showWhether_15 : decode prog_1_method_32_code 15 = .ok (.invokestatic 71, 3) := by decide +kernel
theorem d_CS_showWhether_18 : decode prog_1_method_32_code 18 = .ok (.iconst 0, 1) := by decide +kernel
theorem d_CS_showWhether_19 : decode prog_1_method_32_code 19 = .ok (.ireturn, 1) := by decide +kernel
abbrev wd_CS_showWhether (cI cJ cG cZ : ClassId) (a0 a0_net a0_painter a0_polynomial a0_listCounter a0_setFinder a0_takingApart a0_greedyRun a0_allowed a0_shown a0_shades a0_attempt a0_net_near a0_net_tail a0_net_head a0_painter_paint a0_painter_near a0_painter_free a0_painter_uses : Nat) (v0_net_nodes : Int32) (v0_net_arcCount : Int32) (v0_net_version : Int32) (v0_painter_items : Int32) (v0_painter_evenly : Int32) (v0_painter_palette : Int32) (v0_painter_share : Int32) (v0_painter_bigger : Int32) (v0_painter_bigNow : Int32) (w0_painter_paint : Nat → Int32) (w0_shown : Nat → Int32) : va_W := [(a0, .inr (0, [.ref a0_net, .ref a0_painter, .ref a0_polynomial, .ref a0_listCounter, .ref a0_setFinder, .ref a0_takingApart, .ref a0_greedyRun, .ref a0_allowed, .ref a0_shown, .ref a0_shades, .ref a0_attempt])), (a0_net, .inr (1, [.ref a0_net_near, .ref a0_net_tail, .ref a0_net_head, .int v0_net_nodes, .int v0_net_arcCount, .int v0_net_version])), (a0_painter, .inr (2, [.ref a0_painter_paint, .ref a0_painter_near, .ref a0_painter_free, .ref a0_painter_uses, .int v0_painter_items, .int v0_painter_evenly, .int v0_painter_palette, .int v0_painter_share, .int v0_painter_bigger, .int v0_painter_bigNow])), (a0_painter_paint, .inl (cI, 16, .inl w0_painter_paint)), (a0_shown, .inl (cI, 12, .inl w0_shown))]
abbrev us_CS_showWhether : List Cond := .code y_CS_showWhether prog_1_method_32_code 2 (some .int) :: gtbl
abbrev rm_CS_showWhether : Room := { frames := 2, cells := 0, slots := 0, locals := 60 }
def m_CS_showWhether (F : Nat) (v0_net_nodes : Int32) (v0_net_arcCount : Int32) (v0_net_version : Int32) (v0_painter_items : Int32) (v0_painter_evenly : Int32) (v0_painter_palette : Int32) (v0_painter_share : Int32) (v0_painter_bigger : Int32) (v0_painter_bigNow : Int32) (w0_painter_paint : Nat → Int32) (w0_shown : Nat → Int32) (p1 : Int32) : Option (Int32 × (Nat → Int32)) :=
  if p1 = 0 then (
    some (0, fillA 12 ((-1) : Int32) w0_shown)
  ) else (
    gM (m_CS_showPaint F v0_net_nodes v0_net_arcCount v0_net_version v0_painter_items v0_painter_evenly v0_painter_palette v0_painter_share v0_painter_bigger v0_painter_bigNow w0_painter_paint w0_shown) (fun w0_shown_2 =>
    some (1, w0_shown_2))
  )
set_option maxHeartbeats 4000000 in
set_option maxRecDepth 100000 in
theorem c_CS_showWhether (l : Launch) (dC : Nat → ClassId) (dI : Nat → Nat → Nat) (cI cJ cG cZ : ClassId) (a0 a0_net a0_painter a0_polynomial a0_listCounter a0_setFinder a0_takingApart a0_greedyRun a0_allowed a0_shown a0_shades a0_attempt a0_net_near a0_net_tail a0_net_head a0_painter_paint a0_painter_near a0_painter_free a0_painter_uses : Nat) (sz : Nat) (F : Nat) (v0_net_nodes : Int32) (v0_net_arcCount : Int32) (v0_net_version : Int32) (v0_painter_items : Int32) (v0_painter_evenly : Int32) (v0_painter_palette : Int32) (v0_painter_share : Int32) (v0_painter_bigger : Int32) (v0_painter_bigNow : Int32) (w0_painter_paint : Nat → Int32) (w0_shown : Nat → Int32) (p1 : Int32) (ret : Int32) (o_w0_shown : Nat → Int32) (hm : m_CS_showWhether F v0_net_nodes v0_net_arcCount v0_net_version v0_painter_items v0_painter_evenly v0_painter_palette v0_painter_share v0_painter_bigger v0_painter_bigNow w0_painter_paint w0_shown p1 = some (ret, o_w0_shown)) : Met l y_CS_showWhether us_CS_showWhether rm_CS_showWhether (PcS (dC, dI) (tyL cI cJ cG cZ) [.ref a0, .int p1] sz (wd_CS_showWhether cI cJ cG cZ a0 a0_net a0_painter a0_polynomial a0_listCounter a0_setFinder a0_takingApart a0_greedyRun a0_allowed a0_shown a0_shades a0_attempt a0_net_near a0_net_tail a0_net_head a0_painter_paint a0_painter_near a0_painter_free a0_painter_uses v0_net_nodes v0_net_arcCount v0_net_version v0_painter_items v0_painter_evenly v0_painter_palette v0_painter_share v0_painter_bigger v0_painter_bigNow w0_painter_paint w0_shown)) (va_Qi (fun (r : Int32) (_ : Unit) => ret = r) (fun _ t => PoS (dC, dI) (tyL cI cJ cG cZ) (wd_CS_showWhether cI cJ cG cZ a0 a0_net a0_painter a0_polynomial a0_listCounter a0_setFinder a0_takingApart a0_greedyRun a0_allowed a0_shown a0_shades a0_attempt a0_net_near a0_net_tail a0_net_head a0_painter_paint a0_painter_near a0_painter_free a0_painter_uses v0_net_nodes v0_net_arcCount v0_net_version v0_painter_items v0_painter_evenly v0_painter_palette v0_painter_share v0_painter_bigger v0_painter_bigNow w0_painter_paint o_w0_shown) (va_A (wd_CS_showWhether cI cJ cG cZ a0 a0_net a0_painter a0_polynomial a0_listCounter a0_setFinder a0_takingApart a0_greedyRun a0_allowed a0_shown a0_shades a0_attempt a0_net_near a0_net_tail a0_net_head a0_painter_paint a0_painter_near a0_painter_free a0_painter_uses v0_net_nodes v0_net_arcCount v0_net_version v0_painter_items v0_painter_evenly v0_painter_palette v0_painter_share v0_painter_bigger v0_painter_bigNow w0_painter_paint w0_shown) sz) t) (va_A (wd_CS_showWhether cI cJ cG cZ a0 a0_net a0_painter a0_polynomial a0_listCounter a0_setFinder a0_takingApart a0_greedyRun a0_allowed a0_shown a0_shades a0_attempt a0_net_near a0_net_tail a0_net_head a0_painter_paint a0_painter_near a0_painter_free a0_painter_uses v0_net_nodes v0_net_arcCount v0_net_version v0_painter_items v0_painter_evenly v0_painter_palette v0_painter_share v0_painter_bigger v0_painter_bigNow w0_painter_paint w0_shown) sz)) 0 0 (va_A (wd_CS_showWhether cI cJ cG cZ a0 a0_net a0_painter a0_polynomial a0_listCounter a0_setFinder a0_takingApart a0_greedyRun a0_allowed a0_shown a0_shades a0_attempt a0_net_near a0_net_tail a0_net_head a0_painter_paint a0_painter_near a0_painter_free a0_painter_uses v0_net_nodes v0_net_arcCount v0_net_version v0_painter_items v0_painter_evenly v0_painter_palette v0_painter_share v0_painter_bigger v0_painter_bigNow w0_painter_paint w0_shown) sz) := by
  refine Met.ofW (cc := prog_1_method_32_code) (maxL := 2) (ret := (some .int)) (by decide) rfl ?_
  intro p e s m args below meth c s₁ B hml hv
  obtain ⟨rfl, hsz, hP, hK, hD0, hNw⟩ := hv
  have hx := B.exec
  have hb := B.bytes
  have hr := B.returns
  have htt : ∀ w ∈ gtbl, w.before _ s = true := fun w h => atoms_spec (ws := us_CS_showWhether) B.pre w (List.mem_cons_of_mem _ h)
  have hown : s.vm.findClass R_CS = some m.cls := findClass_of_methodNamed B.named
  have hlocks := B.notSynchronized
  subst hsz
  have hD := hD0.self (sz := s.heap.size)
  generalize hAe : va_A (wd_CS_showWhether cI cJ cG cZ a0 a0_net a0_painter a0_polynomial a0_listCounter a0_setFinder a0_takingApart a0_greedyRun a0_allowed a0_shown a0_shades a0_attempt a0_net_near a0_net_tail a0_net_head a0_painter_paint a0_painter_near a0_painter_free a0_painter_uses v0_net_nodes v0_net_arcCount v0_net_version v0_painter_items v0_painter_evenly v0_painter_palette v0_painter_share v0_painter_bigger v0_painter_bigNow w0_painter_paint w0_shown) s.heap.size = A at hD ⊢
  have hA : ∀ q : Nat, s.heap.size ≤ q → A q := fun q h => by rw [← hAe]; exact Or.inr h
  clear hAe hD0
  have hS : va_S A s.heap s.heap [] := va_S.rf
  have hl := lv_entry ([.ref a0, .int p1]) (n := 2) (Nat.le_of_ble_eq_true rfl)
  rw [lg_entry_eq]
  generalize (lg_sl ([.ref a0, .int p1]) ++ List.replicate (2 - (lg_sl ([.ref a0, .int p1])).length) Slot.unset).toArray = ls at hl ⊢
  have hl : lv_has ls 2 [(0, .ref a0), (1, .int p1)] := hl
  generalize hH : s.heap = H at hP ⊢
  have hS : va_S A s.heap H [] := hH ▸ hS
  generalize hLo : ([] : List Loc) = locs at hS ⊢
  clear hH hLo
  unfold m_CS_showWhether at hm
  refine lv_iload_n hx hb d_CS_showWhether_0 rfl (lv_at hl 1 rfl) ?_
  refine lv_if_eq (tgt := 10) hx hb d_CS_showWhether_1 (by decide) (fun c_1 => ?_) (fun c_1 => ?_)
  · have hm := ite_t c_1 hm
    refine lv_aload_n hx hb d_CS_showWhether_10 rfl (lv_at hl 0 rfl) ?_
    refine va_get (D := (dC, dI)) (ci := 0) (v := .ref a0_shown) (C := R_CS) (T := T_CS) (N := 11) hx hb htt hin_CS hown hK hP 0 rfl rfl 8 (by decide) (htt _ kt_232) (fun _ h9 => h9) rfl d_CS_showWhether_11 ?_
    refine lv_iconst (v := (-1)) hx hb d_CS_showWhether_14 (by decide) ?_
    refine gx_filli hx hb hml hown htt kt_223 hK hNw hP hD hS hA 4 rfl (by decide) hl.1 (lv_room (Nat.le_of_ble_eq_true rfl)) (Nat.le_of_ble_eq_true rfl) (Nat.le_of_ble_eq_true rfl) (Nat.zero_le _) (Nat.zero_le _) d_CS_showWhether_15 (fun H locs hP hD hS => ?_)
    have hP : va_P (dC, dI) vwCl (wd_CS_showWhether cI cJ cG cZ a0 a0_net a0_painter a0_polynomial a0_listCounter a0_setFinder a0_takingApart a0_greedyRun a0_allowed a0_shown a0_shades a0_attempt a0_net_near a0_net_tail a0_net_head a0_painter_paint a0_painter_near a0_painter_free a0_painter_uses v0_net_nodes v0_net_arcCount v0_net_version v0_painter_items v0_painter_evenly v0_painter_palette v0_painter_share v0_painter_bigger v0_painter_bigNow w0_painter_paint (fillA 12 ((-1) : Int32) w0_shown)) H := hP
    have hD : va_D A (wd_CS_showWhether cI cJ cG cZ a0 a0_net a0_painter a0_polynomial a0_listCounter a0_setFinder a0_takingApart a0_greedyRun a0_allowed a0_shown a0_shades a0_attempt a0_net_near a0_net_tail a0_net_head a0_painter_paint a0_painter_near a0_painter_free a0_painter_uses v0_net_nodes v0_net_arcCount v0_net_version v0_painter_items v0_painter_evenly v0_painter_palette v0_painter_share v0_painter_bigger v0_painter_bigNow w0_painter_paint (fillA 12 ((-1) : Int32) w0_shown)) := hD
    refine lv_iconst (v := 0) hx hb d_CS_showWhether_18 (by decide) ?_
    cases hm
    exact W.iret hx hb hr (fun t ht hW => ⟨⟨_, (), rfl, rfl, by rw [ht]; exact hP, va_K.moved hW.alike hK, hD⟩, hS.F ht⟩) hS.2.2 d_CS_showWhether_19
  · have hm := ite_f c_1 hm
    refine lv_aload_n hx hb d_CS_showWhether_4 rfl (lv_at hl 0 rfl) ?_
    obtain ⟨w0_shown_2, hc_3, hm⟩ := gM_e hm
    have hPc : va_P (dC, dI) vwCl (wd_CS_showPaint cI cJ cG cZ a0 a0_net a0_painter a0_polynomial a0_listCounter a0_setFinder a0_takingApart a0_greedyRun a0_allowed a0_shown a0_shades a0_attempt a0_net_near a0_net_tail a0_net_head a0_painter_paint a0_painter_near a0_painter_free a0_painter_uses v0_net_nodes v0_net_arcCount v0_net_version v0_painter_items v0_painter_evenly v0_painter_palette v0_painter_share v0_painter_bigger v0_painter_bigNow w0_painter_paint w0_shown) H := hP.sub [0, 1, 2, 3, 4] rfl
    have hDc : va_D A (wd_CS_showPaint cI cJ cG cZ a0 a0_net a0_painter a0_polynomial a0_listCounter a0_setFinder a0_takingApart a0_greedyRun a0_allowed a0_shown a0_shades a0_attempt a0_net_near a0_net_tail a0_net_head a0_painter_paint a0_painter_near a0_painter_free a0_painter_uses v0_net_nodes v0_net_arcCount v0_net_version v0_painter_items v0_painter_evenly v0_painter_palette v0_painter_share v0_painter_bigger v0_painter_bigNow w0_painter_paint w0_shown) := hD.sub [0, 1, 2, 3, 4] (by decide) rfl
    have hFc : ∀ q, va_A (wd_CS_showPaint cI cJ cG cZ a0 a0_net a0_painter a0_polynomial a0_listCounter a0_setFinder a0_takingApart a0_greedyRun a0_allowed a0_shown a0_shades a0_attempt a0_net_near a0_net_tail a0_net_head a0_painter_paint a0_painter_near a0_painter_free a0_painter_uses v0_net_nodes v0_net_arcCount v0_net_version v0_painter_items v0_painter_evenly v0_painter_palette v0_painter_share v0_painter_bigger v0_painter_bigNow w0_painter_paint w0_shown) H.size q → A q := va_free hD hS hA [0, 1, 2, 3, 4] rfl
    refine va_callv (va_runV (As := []) (rest := []) ⟨hx, hb, hml, hown, htt⟩ (c_CS_showPaint l dC dI cI cJ cG cZ a0 a0_net a0_painter a0_polynomial a0_listCounter a0_setFinder a0_takingApart a0_greedyRun a0_allowed a0_shown a0_shades a0_attempt a0_net_near a0_net_tail a0_net_head a0_painter_paint a0_painter_near a0_painter_free a0_painter_uses H.size F v0_net_nodes v0_net_arcCount v0_net_version v0_painter_items v0_painter_evenly v0_painter_palette v0_painter_share v0_painter_bigger v0_painter_bigNow w0_painter_paint w0_shown w0_shown_2 hc_3) (cwV 0 htt (gdV kt_361 kt_363 kp_12 kt_1 kt_364) rfl rfl rfl (by decide +kernel) ⟨(Nat.le_of_ble_eq_true rfl), (Nat.le_of_ble_eq_true rfl)⟩) ⟨PcS_blind, va_recv hK hPc (ci := 0) (q0 := 0) rfl rfl, PcS_in hPc hK hDc hNw⟩ rfl rfl hl.1 rfl (lv_room (Nat.le_of_ble_eq_true rfl)) d_CS_showWhether_5 ⟨Nat.zero_le _, Nat.zero_le _⟩) hS (fun q _ h => hFc q h) hFc (fun u t H1 locs ht hvm hw hB hz1 hk1 hS => ?_)
    obtain ⟨hP1, hK1, hD1⟩ := hB
    rw [ht] at hP1
    obtain ⟨hP, hD⟩ := va_join (wr := []) (w1 := (wd_CS_showPaint cI cJ cG cZ a0 a0_net a0_painter a0_polynomial a0_listCounter a0_setFinder a0_takingApart a0_greedyRun a0_allowed a0_shown a0_shades a0_attempt a0_net_near a0_net_tail a0_net_head a0_painter_paint a0_painter_near a0_painter_free a0_painter_uses v0_net_nodes v0_net_arcCount v0_net_version v0_painter_items v0_painter_evenly v0_painter_palette v0_painter_share v0_painter_bigger v0_painter_bigNow w0_painter_paint w0_shown_2)) hP hD [0, 1, 2, 3, 4] [] rfl rfl (by decide) (by decide) hk1 hFc hP1 hD1
    have hP : va_P (dC, dI) vwCl (wd_CS_showWhether cI cJ cG cZ a0 a0_net a0_painter a0_polynomial a0_listCounter a0_setFinder a0_takingApart a0_greedyRun a0_allowed a0_shown a0_shades a0_attempt a0_net_near a0_net_tail a0_net_head a0_painter_paint a0_painter_near a0_painter_free a0_painter_uses v0_net_nodes v0_net_arcCount v0_net_version v0_painter_items v0_painter_evenly v0_painter_palette v0_painter_share v0_painter_bigger v0_painter_bigNow w0_painter_paint w0_shown_2) H1 := hP.sub [0, 1, 2, 3, 4] rfl
    have hD : va_D A (wd_CS_showWhether cI cJ cG cZ a0 a0_net a0_painter a0_polynomial a0_listCounter a0_setFinder a0_takingApart a0_greedyRun a0_allowed a0_shown a0_shades a0_attempt a0_net_near a0_net_tail a0_net_head a0_painter_paint a0_painter_near a0_painter_free a0_painter_uses v0_net_nodes v0_net_arcCount v0_net_version v0_painter_items v0_painter_evenly v0_painter_palette v0_painter_share v0_painter_bigger v0_painter_bigNow w0_painter_paint w0_shown_2) := hD.sub [0, 1, 2, 3, 4] (by decide) rfl
    clear hP1 hK1 hD1 hk1 hPc hDc hFc ht hvm hz1
    generalize H1 = H at hP hS ⊢
    refine lv_iconst (v := 1) hx hb d_CS_showWhether_8 (by decide) ?_
    cases hm
    exact W.iret hx hb hr (fun t ht hW => ⟨⟨_, (), rfl, rfl, by rw [ht]; exact hP, va_K.moved hW.alike hK, hD⟩, hS.F ht⟩) hS.2.2 d_CS_showWhether_9
theorem d_CS_even_0 : decode prog_1_method_6_code 0 = .ok (.iload_n 1, 1) := by decide +kernel
theorem d_CS_even_1 : decode prog_1_method_6_code 1 = .ok (.iconst 1, 1) := by decide +kernel
theorem d_CS_even_2 : decode prog_1_method_6_code 2 = .ok (.if_icmp .lt 9, 3) := by decide +kernel
theorem d_CS_even_5 : decode prog_1_method_6_code 5 = .ok (.iload_n 1, 1) := by decide +kernel
theorem d_CS_even_6 : decode prog_1_method_6_code 6 = .ok (.bipush 12, 2) := by decide +kernel
theorem d_CS_even_8 : decode prog_1_method_6_code 8 = .ok (.if_icmp .le 5, 3) := by decide +kernel
theorem d_CS_even_11 : decode prog_1_method_6_code 11 = .ok (.iconst (-1), 1) := by decide +kernel
theorem d_CS_even_12 : decode prog_1_method_6_code 12 = .ok (.ireturn, 1) := by decide +kernel
theorem d_CS_even_13 : decode prog_1_method_6_code 13 = .ok (.aload_n 0, 1) := by decide +kernel
theorem d_CS_even_14 : decode prog_1_method_6_code 14 = .ok (.getfield 19, 3) := by decide +kernel
theorem d_CS_even_17 : decode prog_1_method_6_code 17 = .ok (.aload_n 0, 1) := by decide +kernel
theorem d_CS_even_18 : decode prog_1_method_6_code 18 = .ok (.getfield 12, 3) := by decide +kernel
theorem d_CS_even_21 : decode prog_1_method_6_code 21 = .ok (.iconst 1, 1) := by decide +kernel
theorem d_CS_even_22 : decode prog_1_method_6_code 22 = .ok (.iload_n 1, 1) := by decide +kernel
theorem d_CS_even_23 : decode prog_1_method_6_code 23 = .ok (.ishl, 1) := by decide +kernel
theorem d_CS_even_24 : decode prog_1_method_6_code 24 = .ok (.iconst 1, 1) := by decide +kernel
theorem d_CS_even_25 : decode prog_1_method_6_code 25 = .ok (.isub, 1) := by decide +kernel
theorem d_CS_even_26 : decode prog_1_method_6_code 26 = .ok (.invokevirtual 100, 3) := by decide +kernel
theorem d_CS_even_29 : decode prog_1_method_6_code 29 = .ok (.aload_n 0, 1) := by decide +kernel
theorem d_CS_even_30 : decode prog_1_method_6_code 30 = .ok (.getfield 19, 3) := by decide +kernel
theorem d_CS_even_33 : decode prog_1_method_6_code 33 = .ok (.iload_n 1, 1) := by decide +kernel
theorem d_CS_even_34 : decode prog_1_method_6_code 34 = .ok (.invokevirtual 110, 3) := by decide +kernel
theorem d_CS_even_37 : decode prog_1_method_6_code 37 = .ok (.aload_n 0, 1) := by decide +kernel
theorem d_CS_even_38 : decode prog_1_method_6_code 38 = .ok (.aload_n 0, 1) := by decide +kernel
theorem d_CS_even_39 : decode prog_1_method_6_code 39 = .ok (.getfield 19, 3) := by decide +kernel
theorem d_CS_even_42 : decode prog_1_method_6_code 42 = .ok (.invokevirtual 104, 3) := by decide +kernel
theorem d_CS_even_45 : decode prog_1_method_6_code 45 = .ok (.invokevirtual 114, 3) := by decide +kernel
theorem d_CS_even_48 : decode prog_1_method_6_code 48 = .ok (.ireturn, 1) := by decide +kernel
abbrev wd_CS_even (cI cJ cG cZ : ClassId) (a0 a0_net a0_painter a0_polynomial a0_listCounter a0_setFinder a0_takingApart a0_greedyRun a0_allowed a0_shown a0_shades a0_attempt a0_net_near a0_net_tail a0_net_head a0_painter_paint a0_painter_near a0_painter_free a0_painter_uses : Nat) (r0_painter_free : Nat → Nat) (v0_net_nodes : Int32) (v0_net_arcCount : Int32) (v0_net_version : Int32) (w0_net_near : Nat → Int32) (v0_painter_items : Int32) (v0_painter_evenly : Int32) (v0_painter_palette : Int32) (v0_painter_share : Int32) (v0_painter_bigger : Int32) (v0_painter_bigNow : Int32) (w0_painter_paint : Nat → Int32) (w0_painter_near : Nat → Int32) (w0_painter_uses : Nat → Int32) (w0_shown : Nat → Int32) (w0_painter_free : Nat → Nat → Int32) : va_W := [(a0, .inr (0, [.ref a0_net, .ref a0_painter, .ref a0_polynomial, .ref a0_listCounter, .ref a0_setFinder, .ref a0_takingApart, .ref a0_greedyRun, .ref a0_allowed, .ref a0_shown, .ref a0_shades, .ref a0_attempt])), (a0_net, .inr (1, [.ref a0_net_near, .ref a0_net_tail, .ref a0_net_head, .int v0_net_nodes, .int v0_net_arcCount, .int v0_net_version])), (a0_net_near, .inl (cI, 12, .inl w0_net_near)), (a0_painter, .inr (2, [.ref a0_painter_paint, .ref a0_painter_near, .ref a0_painter_free, .ref a0_painter_uses, .int v0_painter_items, .int v0_painter_evenly, .int v0_painter_palette, .int v0_painter_share, .int v0_painter_bigger, .int v0_painter_bigNow])), (a0_painter_paint, .inl (cI, 16, .inl w0_painter_paint)), (a0_painter_near, .inl (cI, 16, .inl w0_painter_near)), (a0_painter_free, .inl (cG, 18, .inr (.inr (.inr (.inr (gO r0_painter_free 18)))))), (a0_painter_uses, .inl (cI, 12, .inl w0_painter_uses)), (a0_shown, .inl (cI, 12, .inl w0_shown))] ++ rowsW r0_painter_free cI 16 18 w0_painter_free
abbrev we_CS_even (cI cJ cG cZ : ClassId) (a0 a0_net a0_painter a0_polynomial a0_listCounter a0_setFinder a0_takingApart a0_greedyRun a0_allowed a0_shown a0_shades a0_attempt a0_net_near a0_net_tail a0_net_head a0_painter_paint a0_painter_near a0_painter_free a0_painter_uses : Nat) (r0_painter_free : Nat → Nat) (v0_net_nodes : Int32) (v0_net_arcCount : Int32) (v0_net_version : Int32) (w0_net_near : Nat → Int32) (v0_painter_items : Int32) (v0_painter_evenly : Int32) (v0_painter_palette : Int32) (v0_painter_share : Int32) (v0_painter_bigger : Int32) (v0_painter_bigNow : Int32) (w0_painter_paint : Nat → Int32) (w0_painter_near : Nat → Int32) (w0_painter_uses : Nat → Int32) (w0_shown : Nat → Int32) (w0_painter_free : Nat → Nat → Int32) : va_W := [(a0, .inr (0, [.ref a0_net, .ref a0_painter, .ref a0_polynomial, .ref a0_listCounter, .ref a0_setFinder, .ref a0_takingApart, .ref a0_greedyRun, .ref a0_allowed, .ref a0_shown, .ref a0_shades, .ref a0_attempt])), (a0_net, .inr (1, [.ref a0_net_near, .ref a0_net_tail, .ref a0_net_head, .int v0_net_nodes, .int v0_net_arcCount, .int v0_net_version])), (a0_net_near, .inl (cI, 12, .inl w0_net_near)), (a0_painter, .inr (2, [.ref a0_painter_paint, .ref a0_painter_near, .ref a0_painter_free, .ref a0_painter_uses, .int v0_painter_items, .int v0_painter_evenly, .int v0_painter_palette, .int v0_painter_share, .int v0_painter_bigger, .int v0_painter_bigNow])), (a0_painter_paint, .inl (cI, 16, .inl w0_painter_paint)), (a0_painter_near, .inl (cI, 16, .inl w0_painter_near)), (a0_painter_free, .inl (cG, 18, .inr (.inr (.inr (.inr (gO r0_painter_free 18)))))), (a0_painter_uses, .inl (cI, 12, .inl w0_painter_uses)), (a0_shown, .inl (cI, 12, .inl w0_shown))]
abbrev us_CS_even : List Cond := .code y_CS_even prog_1_method_6_code 2 (some .int) :: gtbl
abbrev rm_CS_even : Room := { frames := 23, cells := 0, slots := 0, locals := 647 }
def m_CS_even (F : Nat) (v0_net_nodes : Int32) (v0_net_arcCount : Int32) (v0_net_version : Int32) (w0_net_near : Nat → Int32) (v0_painter_items : Int32) (v0_painter_evenly : Int32) (v0_painter_palette : Int32) (v0_painter_share : Int32) (v0_painter_bigger : Int32) (v0_painter_bigNow : Int32) (w0_painter_paint : Nat → Int32) (w0_painter_near : Nat → Int32) (w0_painter_uses : Nat → Int32) (w0_shown : Nat → Int32) (w0_painter_free : Nat → Nat → Int32) (p1 : Int32) : Option (Int32 × Int32 × Int32 × Int32 × Int32 × Int32 × Int32 × (Nat → Int32) × (Nat → Int32) × (Nat → Int32) × (Nat → Int32) × (Nat → Nat → Int32)) :=
  if p1 < (1 : Int32) then (
    some ((-1), v0_painter_items, v0_painter_evenly, v0_painter_palette, v0_painter_share, v0_painter_bigger, v0_painter_bigNow, w0_painter_paint, w0_painter_near, w0_painter_uses, w0_shown, w0_painter_free)
  ) else (
    if p1 ≤ (12 : Int32) then (
      gM (m_Pai_startNodes F v0_painter_items v0_painter_evenly v0_painter_palette v0_painter_share v0_painter_bigger v0_painter_bigNow w0_painter_near w0_painter_uses v0_net_nodes v0_net_arcCount v0_net_version w0_net_near w0_painter_free (((1 : Int32) <<< (p1 &&& 31)) - 1)) (fun (z_13 : Int32 × Int32 × Int32 × Int32 × Int32 × Int32 × (Nat → Int32) × (Nat → Int32) × (Nat → Nat → Int32)) => match z_13 with
      | (v0_painter_items_3, v0_painter_evenly_4, v0_painter_palette_5, v0_painter_share_6, v0_painter_bigger_7, v0_painter_bigNow_8, w0_painter_near_9, w0_painter_uses_10, w0_painter_free_11) =>
      gM (m_Pai_shareEvenly F v0_painter_items_3 v0_painter_evenly_4 v0_painter_palette_5 v0_painter_share_6 v0_painter_bigger_7 v0_painter_bigNow_8 p1) (fun (z_19 : Int32 × Int32 × Int32 × Int32) => match z_19 with
      | (v0_painter_evenly_14, v0_painter_palette_15, v0_painter_share_16, v0_painter_bigger_17) =>
      gM (m_Pai_paintFirst F v0_painter_items_3 v0_painter_evenly_14 v0_painter_palette_15 v0_painter_share_16 v0_painter_bigger_17 v0_painter_bigNow_8 w0_painter_paint w0_painter_near_9 w0_painter_uses_10 w0_painter_free_11) (fun (z_26 : Int32 × Int32 × (Nat → Int32) × (Nat → Int32) × (Nat → Nat → Int32)) => match z_26 with
      | (q_20, v0_painter_bigNow_21, w0_painter_paint_22, w0_painter_uses_23, w0_painter_free_24) =>
      gM (m_CS_showWhether F v0_net_nodes v0_net_arcCount v0_net_version v0_painter_items_3 v0_painter_evenly_14 v0_painter_palette_15 v0_painter_share_16 v0_painter_bigger_17 v0_painter_bigNow_21 w0_painter_paint_22 w0_shown q_20) (fun (z_32 : Int32 × (Nat → Int32)) => match z_32 with
      | (q_29, w0_shown_30) =>
      some (q_29, v0_painter_items_3, v0_painter_evenly_14, v0_painter_palette_15, v0_painter_share_16, v0_painter_bigger_17, v0_painter_bigNow_21, w0_painter_paint_22, w0_painter_near_9, w0_painter_uses_23, w0_shown_30, w0_painter_free_24)))))
    ) else (
      some ((-1), v0_painter_items, v0_painter_evenly, v0_painter_palette, v0_painter_share, v0_painter_bigger, v0_painter_bigNow, w0_painter_paint, w0_painter_near, w0_painter_uses, w0_shown, w0_painter_free)
    )
  )
set_option maxHeartbeats 4000000 in
set_option maxRecDepth 100000 in
theorem c_CS_even (l : Launch) (dC : Nat → ClassId) (dI : Nat → Nat → Nat) (cI cJ cG cZ : ClassId) (a0 a0_net a0_painter a0_polynomial a0_listCounter a0_setFinder a0_takingApart a0_greedyRun a0_allowed a0_shown a0_shades a0_attempt a0_net_near a0_net_tail a0_net_head a0_painter_paint a0_painter_near a0_painter_free a0_painter_uses : Nat) (r0_painter_free : Nat → Nat) (sz : Nat) (F : Nat) (v0_net_nodes : Int32) (v0_net_arcCount : Int32) (v0_net_version : Int32) (w0_net_near : Nat → Int32) (v0_painter_items : Int32) (v0_painter_evenly : Int32) (v0_painter_palette : Int32) (v0_painter_share : Int32) (v0_painter_bigger : Int32) (v0_painter_bigNow : Int32) (w0_painter_paint : Nat → Int32) (w0_painter_near : Nat → Int32) (w0_painter_uses : Nat → Int32) (w0_shown : Nat → Int32) (w0_painter_free : Nat → Nat → Int32) (p1 : Int32) (ret : Int32) (o_v0_painter_items : Int32) (o_v0_painter_evenly : Int32) (o_v0_painter_palette : Int32) (o_v0_painter_share : Int32) (o_v0_painter_bigger : Int32) (o_v0_painter_bigNow : Int32) (o_w0_painter_paint : Nat → Int32) (o_w0_painter_near : Nat → Int32) (o_w0_painter_uses : Nat → Int32) (o_w0_shown : Nat → Int32) (o_w0_painter_free : Nat → Nat → Int32) (hm : m_CS_even F v0_net_nodes v0_net_arcCount v0_net_version w0_net_near v0_painter_items v0_painter_evenly v0_painter_palette v0_painter_share v0_painter_bigger v0_painter_bigNow w0_painter_paint w0_painter_near w0_painter_uses w0_shown w0_painter_free p1 = some (ret, o_v0_painter_items, o_v0_painter_evenly, o_v0_painter_palette, o_v0_painter_share, o_v0_painter_bigger, o_v0_painter_bigNow, o_w0_painter_paint, o_w0_painter_near, o_w0_painter_uses, o_w0_shown, o_w0_painter_free)) : Met l y_CS_even us_CS_even rm_CS_even (PcS (dC, dI) (tyL cI cJ cG cZ) [.ref a0, .int p1] sz (wd_CS_even cI cJ cG cZ a0 a0_net a0_painter a0_polynomial a0_listCounter a0_setFinder a0_takingApart a0_greedyRun a0_allowed a0_shown a0_shades a0_attempt a0_net_near a0_net_tail a0_net_head a0_painter_paint a0_painter_near a0_painter_free a0_painter_uses r0_painter_free v0_net_nodes v0_net_arcCount v0_net_version w0_net_near v0_painter_items v0_painter_evenly v0_painter_palette v0_painter_share v0_painter_bigger v0_painter_bigNow w0_painter_paint w0_painter_near w0_painter_uses w0_shown w0_painter_free)) (va_Qi (fun (r : Int32) (_ : Unit) => ret = r) (fun _ t => PoS (dC, dI) (tyL cI cJ cG cZ) (wd_CS_even cI cJ cG cZ a0 a0_net a0_painter a0_polynomial a0_listCounter a0_setFinder a0_takingApart a0_greedyRun a0_allowed a0_shown a0_shades a0_attempt a0_net_near a0_net_tail a0_net_head a0_painter_paint a0_painter_near a0_painter_free a0_painter_uses r0_painter_free v0_net_nodes v0_net_arcCount v0_net_version w0_net_near o_v0_painter_items o_v0_painter_evenly o_v0_painter_palette o_v0_painter_share o_v0_painter_bigger o_v0_painter_bigNow o_w0_painter_paint o_w0_painter_near o_w0_painter_uses o_w0_shown o_w0_painter_free) (va_A (wd_CS_even cI cJ cG cZ a0 a0_net a0_painter a0_polynomial a0_listCounter a0_setFinder a0_takingApart a0_greedyRun a0_allowed a0_shown a0_shades a0_attempt a0_net_near a0_net_tail a0_net_head a0_painter_paint a0_painter_near a0_painter_free a0_painter_uses r0_painter_free v0_net_nodes v0_net_arcCount v0_net_version w0_net_near v0_painter_items v0_painter_evenly v0_painter_palette v0_painter_share v0_painter_bigger v0_painter_bigNow w0_painter_paint w0_painter_near w0_painter_uses w0_shown w0_painter_free) sz) t) (va_A (wd_CS_even cI cJ cG cZ a0 a0_net a0_painter a0_polynomial a0_listCounter a0_setFinder a0_takingApart a0_greedyRun a0_allowed a0_shown a0_shades a0_attempt a0_net_near a0_net_tail a0_net_head a0_painter_paint a0_painter_near a0_painter_free a0_painter_uses r0_painter_free v0_net_nodes v0_net_arcCount v0_net_version w0_net_near v0_painter_items v0_painter_evenly v0_painter_palette v0_painter_share v0_painter_bigger v0_painter_bigNow w0_painter_paint w0_painter_near w0_painter_uses w0_shown w0_painter_free) sz)) 0 0 (va_A (wd_CS_even cI cJ cG cZ a0 a0_net a0_painter a0_polynomial a0_listCounter a0_setFinder a0_takingApart a0_greedyRun a0_allowed a0_shown a0_shades a0_attempt a0_net_near a0_net_tail a0_net_head a0_painter_paint a0_painter_near a0_painter_free a0_painter_uses r0_painter_free v0_net_nodes v0_net_arcCount v0_net_version w0_net_near v0_painter_items v0_painter_evenly v0_painter_palette v0_painter_share v0_painter_bigger v0_painter_bigNow w0_painter_paint w0_painter_near w0_painter_uses w0_shown w0_painter_free) sz) := by
  refine Met.ofW (cc := prog_1_method_6_code) (maxL := 2) (ret := (some .int)) (by decide) rfl ?_
  intro p e s m args below meth c s₁ B hml hv
  obtain ⟨rfl, hsz, hP, hK, hD0, hNw⟩ := hv
  have hx := B.exec
  have hb := B.bytes
  have hr := B.returns
  have htt : ∀ w ∈ gtbl, w.before _ s = true := fun w h => atoms_spec (ws := us_CS_even) B.pre w (List.mem_cons_of_mem _ h)
  have hown : s.vm.findClass R_CS = some m.cls := findClass_of_methodNamed B.named
  have hlocks := B.notSynchronized
  subst hsz
  have hD := hD0.self (sz := s.heap.size)
  generalize hAe : va_A (wd_CS_even cI cJ cG cZ a0 a0_net a0_painter a0_polynomial a0_listCounter a0_setFinder a0_takingApart a0_greedyRun a0_allowed a0_shown a0_shades a0_attempt a0_net_near a0_net_tail a0_net_head a0_painter_paint a0_painter_near a0_painter_free a0_painter_uses r0_painter_free v0_net_nodes v0_net_arcCount v0_net_version w0_net_near v0_painter_items v0_painter_evenly v0_painter_palette v0_painter_share v0_painter_bigger v0_painter_bigNow w0_painter_paint w0_painter_near w0_painter_uses w0_shown w0_painter_free) s.heap.size = A at hD ⊢
  have hA : ∀ q : Nat, s.heap.size ≤ q → A q := fun q h => by rw [← hAe]; exact Or.inr h
  clear hAe hD0
  have hS : va_S A s.heap s.heap [] := va_S.rf
  have hl := lv_entry ([.ref a0, .int p1]) (n := 2) (Nat.le_of_ble_eq_true rfl)
  rw [lg_entry_eq]
  generalize (lg_sl ([.ref a0, .int p1]) ++ List.replicate (2 - (lg_sl ([.ref a0, .int p1])).length) Slot.unset).toArray = ls at hl ⊢
  have hl : lv_has ls 2 [(0, .ref a0), (1, .int p1)] := hl
  generalize hH : s.heap = H at hP ⊢
  have hS : va_S A s.heap H [] := hH ▸ hS
  generalize hLo : ([] : List Loc) = locs at hS ⊢
  clear hH hLo
  unfold m_CS_even at hm
  refine lv_iload_n hx hb d_CS_even_0 rfl (lv_at hl 1 rfl) ?_
  refine lv_iconst (v := 1) hx hb d_CS_even_1 (by decide) ?_
  refine lv_icmp_lt (tgt := 11) hx hb d_CS_even_2 (by decide) (fun c_1 => ?_) (fun c_1 => ?_)
  · have hm := ite_t c_1 hm
    refine lv_iconst (v := (-1)) hx hb d_CS_even_11 (by decide) ?_
    cases hm
    exact W.iret hx hb hr (fun t ht hW => ⟨⟨_, (), rfl, rfl, by rw [ht]; exact hP, va_K.moved hW.alike hK, hD⟩, hS.F ht⟩) hS.2.2 d_CS_even_12
  · have hm := ite_f c_1 hm
    refine lv_iload_n hx hb d_CS_even_5 rfl (lv_at hl 1 rfl) ?_
    refine lv_bipush (v := 12) hx hb d_CS_even_6 (by decide) ?_
    refine lv_icmp_le (tgt := 13) hx hb d_CS_even_8 (by decide) (fun c_2 => ?_) (fun c_2 => ?_)
    · have hm := ite_t c_2 hm
      refine lv_aload_n hx hb d_CS_even_13 rfl (lv_at hl 0 rfl) ?_
      refine va_get (D := (dC, dI)) (ci := 0) (v := .ref a0_painter) (C := R_CS) (T := T_CS) (N := 11) hx hb htt hin_CS hown hK hP 0 rfl rfl 1 (by decide) (htt _ kt_225) (fun _ h9 => h9) rfl d_CS_even_14 ?_
      refine lv_aload_n hx hb d_CS_even_17 rfl (lv_at hl 0 rfl) ?_
      refine va_get (D := (dC, dI)) (ci := 0) (v := .ref a0_net) (C := R_CS) (T := T_CS) (N := 11) hx hb htt hin_CS hown hK hP 0 rfl rfl 0 (by decide) (htt _ kt_224) (fun _ h9 => h9) rfl d_CS_even_18 ?_
      refine lv_iconst (v := 1) hx hb d_CS_even_21 (by decide) ?_
      refine lv_iload_n hx hb d_CS_even_22 rfl (lv_at hl 1 rfl) ?_
      refine lv_ishl hx hb d_CS_even_23 ?_
      refine lv_iconst (v := 1) hx hb d_CS_even_24 (by decide) ?_
      refine lv_isub hx hb d_CS_even_25 ?_
      obtain ⟨⟨v0_painter_items_3, v0_painter_evenly_4, v0_painter_palette_5, v0_painter_share_6, v0_painter_bigger_7, v0_painter_bigNow_8, w0_painter_near_9, w0_painter_uses_10, w0_painter_free_11⟩, hc_12, hm⟩ := gM_e hm
      dsimp only at hm
      have hPc : va_P (dC, dI) vwCl (wd_Pai_startNodes cI cJ cG cZ a0_painter a0_net a0_painter_paint a0_painter_near a0_painter_free a0_painter_uses a0_net_near a0_net_tail a0_net_head r0_painter_free v0_painter_items v0_painter_evenly v0_painter_palette v0_painter_share v0_painter_bigger v0_painter_bigNow w0_painter_near w0_painter_uses v0_net_nodes v0_net_arcCount v0_net_version w0_net_near w0_painter_free) H := hP.part [3, 5, 6, 7, 1, 2] rfl
      have hDc : va_D A (wd_Pai_startNodes cI cJ cG cZ a0_painter a0_net a0_painter_paint a0_painter_near a0_painter_free a0_painter_uses a0_net_near a0_net_tail a0_net_head r0_painter_free v0_painter_items v0_painter_evenly v0_painter_palette v0_painter_share v0_painter_bigger v0_painter_bigNow w0_painter_near w0_painter_uses v0_net_nodes v0_net_arcCount v0_net_version w0_net_near w0_painter_free) := hD.part [3, 5, 6, 7, 1, 2] (by decide) rfl
      have hFc : ∀ q, va_A (wd_Pai_startNodes cI cJ cG cZ a0_painter a0_net a0_painter_paint a0_painter_near a0_painter_free a0_painter_uses a0_net_near a0_net_tail a0_net_head r0_painter_free v0_painter_items v0_painter_evenly v0_painter_palette v0_painter_share v0_painter_bigger v0_painter_bigNow w0_painter_near w0_painter_uses v0_net_nodes v0_net_arcCount v0_net_version w0_net_near w0_painter_free) H.size q → A q := va_freeP hD hS hA [3, 5, 6, 7, 1, 2] rfl
      refine va_callv (va_runV (As := [.ref a0_net, .int (((1 : Int32) <<< (p1 &&& 31)) - 1)]) (rest := []) ⟨hx, hb, hml, hown, htt⟩ (c_Pai_startNodes l dC dI cI cJ cG cZ a0_painter a0_net a0_painter_paint a0_painter_near a0_painter_free a0_painter_uses a0_net_near a0_net_tail a0_net_head r0_painter_free H.size F v0_painter_items v0_painter_evenly v0_painter_palette v0_painter_share v0_painter_bigger v0_painter_bigNow w0_painter_near w0_painter_uses v0_net_nodes v0_net_arcCount v0_net_version w0_net_near w0_painter_free (((1 : Int32) <<< (p1 &&& 31)) - 1) v0_painter_items_3 v0_painter_evenly_4 v0_painter_palette_5 v0_painter_share_6 v0_painter_bigger_7 v0_painter_bigNow_8 w0_painter_near_9 w0_painter_uses_10 w0_painter_free_11 hc_12) (cwV 2 htt (gdV kt_294 kt_295 kt_296 kt_3 kt_297) rfl rfl rfl (by decide +kernel) ⟨(Nat.le_of_ble_eq_true rfl), (Nat.le_of_ble_eq_true rfl)⟩) ⟨PcS_blind, va_recv hK hPc (ci := 2) (q0 := 0) rfl rfl, PcS_in hPc hK hDc hNw⟩ rfl rfl hl.1 rfl (lv_room (Nat.le_of_ble_eq_true rfl)) d_CS_even_26 ⟨Nat.zero_le _, Nat.zero_le _⟩) hS (fun q _ h => hFc q h) hFc (fun u t H1 locs ht hvm hw hB hz1 hk1 hS => ?_)
      obtain ⟨hP1, hK1, hD1⟩ := hB
      rw [ht] at hP1
      obtain ⟨hP, hD⟩ := va_joinP (wr := [(a0, .inr (0, [.ref a0_net, .ref a0_painter, .ref a0_polynomial, .ref a0_listCounter, .ref a0_setFinder, .ref a0_takingApart, .ref a0_greedyRun, .ref a0_allowed, .ref a0_shown, .ref a0_shades, .ref a0_attempt])), (a0_painter_paint, .inl (cI, 16, .inl w0_painter_paint)), (a0_shown, .inl (cI, 12, .inl w0_shown))]) (rx := (we_Pai_startNodes cI cJ cG cZ a0_painter a0_net a0_painter_paint a0_painter_near a0_painter_free a0_painter_uses a0_net_near a0_net_tail a0_net_head r0_painter_free v0_painter_items_3 v0_painter_evenly_4 v0_painter_palette_5 v0_painter_share_6 v0_painter_bigger_7 v0_painter_bigNow_8 w0_painter_near_9 w0_painter_uses_10 v0_net_nodes v0_net_arcCount v0_net_version w0_net_near w0_painter_free_11)) hP hD [3, 5, 6, 7, 1, 2] [0, 4, 8] rfl rfl (by decide) (by decide) hk1 hFc hP1 hD1
      have hP : va_P (dC, dI) vwCl (wd_CS_even cI cJ cG cZ a0 a0_net a0_painter a0_polynomial a0_listCounter a0_setFinder a0_takingApart a0_greedyRun a0_allowed a0_shown a0_shades a0_attempt a0_net_near a0_net_tail a0_net_head a0_painter_paint a0_painter_near a0_painter_free a0_painter_uses r0_painter_free v0_net_nodes v0_net_arcCount v0_net_version w0_net_near v0_painter_items_3 v0_painter_evenly_4 v0_painter_palette_5 v0_painter_share_6 v0_painter_bigger_7 v0_painter_bigNow_8 w0_painter_paint w0_painter_near_9 w0_painter_uses_10 w0_shown w0_painter_free_11) H1 := hP.part [0, 7, 8, 3, 1, 4, 5, 6, 2] rfl
      have hD : va_D A (wd_CS_even cI cJ cG cZ a0 a0_net a0_painter a0_polynomial a0_listCounter a0_setFinder a0_takingApart a0_greedyRun a0_allowed a0_shown a0_shades a0_attempt a0_net_near a0_net_tail a0_net_head a0_painter_paint a0_painter_near a0_painter_free a0_painter_uses r0_painter_free v0_net_nodes v0_net_arcCount v0_net_version w0_net_near v0_painter_items_3 v0_painter_evenly_4 v0_painter_palette_5 v0_painter_share_6 v0_painter_bigger_7 v0_painter_bigNow_8 w0_painter_paint w0_painter_near_9 w0_painter_uses_10 w0_shown w0_painter_free_11) := hD.part [0, 7, 8, 3, 1, 4, 5, 6, 2] (by decide) rfl
      clear hP1 hK1 hD1 hk1 hPc hDc hFc ht hvm hz1
      generalize H1 = H at hP hS ⊢
      refine lv_aload_n hx hb d_CS_even_29 rfl (lv_at hl 0 rfl) ?_
      refine va_get (D := (dC, dI)) (ci := 0) (v := .ref a0_painter) (C := R_CS) (T := T_CS) (N := 11) hx hb htt hin_CS hown hK hP 0 rfl rfl 1 (by decide) (htt _ kt_225) (fun _ h9 => h9) rfl d_CS_even_30 ?_
      refine lv_iload_n hx hb d_CS_even_33 rfl (lv_at hl 1 rfl) ?_
      obtain ⟨⟨v0_painter_evenly_14, v0_painter_palette_15, v0_painter_share_16, v0_painter_bigger_17⟩, hc_18, hm⟩ := gM_e hm
      dsimp only at hm
      have hPc : va_P (dC, dI) vwCl (wd_Pai_shareEvenly cI cJ cG cZ a0_painter a0_painter_paint a0_painter_near a0_painter_free a0_painter_uses v0_painter_items_3 v0_painter_evenly_4 v0_painter_palette_5 v0_painter_share_6 v0_painter_bigger_7 v0_painter_bigNow_8) H := hP.sub [3] rfl
      have hDc : va_D A (wd_Pai_shareEvenly cI cJ cG cZ a0_painter a0_painter_paint a0_painter_near a0_painter_free a0_painter_uses v0_painter_items_3 v0_painter_evenly_4 v0_painter_palette_5 v0_painter_share_6 v0_painter_bigger_7 v0_painter_bigNow_8) := hD.sub [3] (by decide) rfl
      have hFc : ∀ q, va_A (wd_Pai_shareEvenly cI cJ cG cZ a0_painter a0_painter_paint a0_painter_near a0_painter_free a0_painter_uses v0_painter_items_3 v0_painter_evenly_4 v0_painter_palette_5 v0_painter_share_6 v0_painter_bigger_7 v0_painter_bigNow_8) H.size q → A q := va_free hD hS hA [3] rfl
      refine va_callv (va_runV (As := [.int p1]) (rest := []) ⟨hx, hb, hml, hown, htt⟩ (c_Pai_shareEvenly l dC dI cI cJ cG cZ a0_painter a0_painter_paint a0_painter_near a0_painter_free a0_painter_uses H.size F v0_painter_items_3 v0_painter_evenly_4 v0_painter_palette_5 v0_painter_share_6 v0_painter_bigger_7 v0_painter_bigNow_8 p1 v0_painter_evenly_14 v0_painter_palette_15 v0_painter_share_16 v0_painter_bigger_17 hc_18) (cwV 1 htt (gdV kt_370 kt_371 kt_372 kt_3 kt_373) rfl rfl rfl (by decide +kernel) ⟨(Nat.le_of_ble_eq_true rfl), (Nat.le_of_ble_eq_true rfl)⟩) ⟨PcS_blind, va_recv hK hPc (ci := 2) (q0 := 0) rfl rfl, PcS_in hPc hK hDc hNw⟩ rfl rfl hl.1 rfl (lv_room (Nat.le_of_ble_eq_true rfl)) d_CS_even_34 ⟨Nat.zero_le _, Nat.zero_le _⟩) hS (fun q _ h => hFc q h) hFc (fun u t H1 locs ht hvm hw hB hz1 hk1 hS => ?_)
      obtain ⟨hP1, hK1, hD1⟩ := hB
      rw [ht] at hP1
      obtain ⟨hP, hD⟩ := va_joinQ (wr := [(a0, .inr (0, [.ref a0_net, .ref a0_painter, .ref a0_polynomial, .ref a0_listCounter, .ref a0_setFinder, .ref a0_takingApart, .ref a0_greedyRun, .ref a0_allowed, .ref a0_shown, .ref a0_shades, .ref a0_attempt])), (a0_net, .inr (1, [.ref a0_net_near, .ref a0_net_tail, .ref a0_net_head, .int v0_net_nodes, .int v0_net_arcCount, .int v0_net_version])), (a0_net_near, .inl (cI, 12, .inl w0_net_near)), (a0_painter_paint, .inl (cI, 16, .inl w0_painter_paint)), (a0_painter_near, .inl (cI, 16, .inl w0_painter_near_9)), (a0_painter_free, .inl (cG, 18, .inr (.inr (.inr (.inr (gO r0_painter_free 18)))))), (a0_painter_uses, .inl (cI, 12, .inl w0_painter_uses_10)), (a0_shown, .inl (cI, 12, .inl w0_shown))]) (w1 := (wd_Pai_shareEvenly cI cJ cG cZ a0_painter a0_painter_paint a0_painter_near a0_painter_free a0_painter_uses v0_painter_items_3 v0_painter_evenly_14 v0_painter_palette_15 v0_painter_share_16 v0_painter_bigger_17 v0_painter_bigNow_8)) hP hD [3] [0, 1, 2, 4, 5, 6, 7, 8] rfl rfl (by decide) (by decide) hk1 hFc hP1 hD1
      have hP : va_P (dC, dI) vwCl (wd_CS_even cI cJ cG cZ a0 a0_net a0_painter a0_polynomial a0_listCounter a0_setFinder a0_takingApart a0_greedyRun a0_allowed a0_shown a0_shades a0_attempt a0_net_near a0_net_tail a0_net_head a0_painter_paint a0_painter_near a0_painter_free a0_painter_uses r0_painter_free v0_net_nodes v0_net_arcCount v0_net_version w0_net_near v0_painter_items_3 v0_painter_evenly_14 v0_painter_palette_15 v0_painter_share_16 v0_painter_bigger_17 v0_painter_bigNow_8 w0_painter_paint w0_painter_near_9 w0_painter_uses_10 w0_shown w0_painter_free_11) H1 := hP.part [0, 1, 2, 8, 3, 4, 5, 6, 7] rfl
      have hD : va_D A (wd_CS_even cI cJ cG cZ a0 a0_net a0_painter a0_polynomial a0_listCounter a0_setFinder a0_takingApart a0_greedyRun a0_allowed a0_shown a0_shades a0_attempt a0_net_near a0_net_tail a0_net_head a0_painter_paint a0_painter_near a0_painter_free a0_painter_uses r0_painter_free v0_net_nodes v0_net_arcCount v0_net_version w0_net_near v0_painter_items_3 v0_painter_evenly_14 v0_painter_palette_15 v0_painter_share_16 v0_painter_bigger_17 v0_painter_bigNow_8 w0_painter_paint w0_painter_near_9 w0_painter_uses_10 w0_shown w0_painter_free_11) := hD.part [0, 1, 2, 8, 3, 4, 5, 6, 7] (by decide) rfl
      clear hP1 hK1 hD1 hk1 hPc hDc hFc ht hvm hz1
      generalize H1 = H at hP hS ⊢
      refine lv_aload_n hx hb d_CS_even_37 rfl (lv_at hl 0 rfl) ?_
      refine lv_aload_n hx hb d_CS_even_38 rfl (lv_at hl 0 rfl) ?_
      refine va_get (D := (dC, dI)) (ci := 0) (v := .ref a0_painter) (C := R_CS) (T := T_CS) (N := 11) hx hb htt hin_CS hown hK hP 0 rfl rfl 1 (by decide) (htt _ kt_225) (fun _ h9 => h9) rfl d_CS_even_39 ?_
      obtain ⟨⟨q_20, v0_painter_bigNow_21, w0_painter_paint_22, w0_painter_uses_23, w0_painter_free_24⟩, hc_25, hm⟩ := gM_e hm
      dsimp only at hm
      have hPc : va_P (dC, dI) vwCl (wd_Pai_paintFirst cI cJ cG cZ a0_painter a0_painter_paint a0_painter_near a0_painter_free a0_painter_uses r0_painter_free v0_painter_items_3 v0_painter_evenly_14 v0_painter_palette_15 v0_painter_share_16 v0_painter_bigger_17 v0_painter_bigNow_8 w0_painter_paint w0_painter_near_9 w0_painter_uses_10 w0_painter_free_11) H := hP.part [3, 4, 5, 6, 7] rfl
      have hDc : va_D A (wd_Pai_paintFirst cI cJ cG cZ a0_painter a0_painter_paint a0_painter_near a0_painter_free a0_painter_uses r0_painter_free v0_painter_items_3 v0_painter_evenly_14 v0_painter_palette_15 v0_painter_share_16 v0_painter_bigger_17 v0_painter_bigNow_8 w0_painter_paint w0_painter_near_9 w0_painter_uses_10 w0_painter_free_11) := hD.part [3, 4, 5, 6, 7] (by decide) rfl
      have hFc : ∀ q, va_A (wd_Pai_paintFirst cI cJ cG cZ a0_painter a0_painter_paint a0_painter_near a0_painter_free a0_painter_uses r0_painter_free v0_painter_items_3 v0_painter_evenly_14 v0_painter_palette_15 v0_painter_share_16 v0_painter_bigger_17 v0_painter_bigNow_8 w0_painter_paint w0_painter_near_9 w0_painter_uses_10 w0_painter_free_11) H.size q → A q := va_freeP hD hS hA [3, 4, 5, 6, 7] rfl
      refine va_calli (va_runV (As := []) (rest := [.ref a0]) ⟨hx, hb, hml, hown, htt⟩ (c_Pai_paintFirst l dC dI cI cJ cG cZ a0_painter a0_painter_paint a0_painter_near a0_painter_free a0_painter_uses r0_painter_free H.size F v0_painter_items_3 v0_painter_evenly_14 v0_painter_palette_15 v0_painter_share_16 v0_painter_bigger_17 v0_painter_bigNow_8 w0_painter_paint w0_painter_near_9 w0_painter_uses_10 w0_painter_free_11 q_20 v0_painter_bigNow_21 w0_painter_paint_22 w0_painter_uses_23 w0_painter_free_24 hc_25) (cwV 0 htt (gdV kt_306 kt_307 kt_308 kt_3 kt_309) rfl rfl rfl (by decide +kernel) ⟨(Nat.le_of_ble_eq_true rfl), (Nat.le_of_ble_eq_true rfl)⟩) ⟨PcS_blind, va_recv hK hPc (ci := 2) (q0 := 0) rfl rfl, PcS_in hPc hK hDc hNw⟩ rfl rfl hl.1 rfl (lv_room (Nat.le_of_ble_eq_true rfl)) d_CS_even_42 ⟨Nat.zero_le _, Nat.zero_le _⟩) hS (fun q _ h => hFc q h) hFc (fun r_27 u t H1 locs ht hvm hw hB hz1 hk1 hS => ?_)
      obtain ⟨hP1, hK1, hD1⟩ := hB
      rw [ht] at hP1
      obtain ⟨hw, hz_28⟩ := hw
      subst hw
      obtain ⟨hP, hD⟩ := va_joinP (wr := [(a0, .inr (0, [.ref a0_net, .ref a0_painter, .ref a0_polynomial, .ref a0_listCounter, .ref a0_setFinder, .ref a0_takingApart, .ref a0_greedyRun, .ref a0_allowed, .ref a0_shown, .ref a0_shades, .ref a0_attempt])), (a0_net, .inr (1, [.ref a0_net_near, .ref a0_net_tail, .ref a0_net_head, .int v0_net_nodes, .int v0_net_arcCount, .int v0_net_version])), (a0_net_near, .inl (cI, 12, .inl w0_net_near)), (a0_shown, .inl (cI, 12, .inl w0_shown))]) (rx := (we_Pai_paintFirst cI cJ cG cZ a0_painter a0_painter_paint a0_painter_near a0_painter_free a0_painter_uses r0_painter_free v0_painter_items_3 v0_painter_evenly_14 v0_painter_palette_15 v0_painter_share_16 v0_painter_bigger_17 v0_painter_bigNow_21 w0_painter_paint_22 w0_painter_near_9 w0_painter_uses_23 w0_painter_free_24)) hP hD [3, 4, 5, 6, 7] [0, 1, 2, 8] rfl rfl (by decide) (by decide) hk1 hFc hP1 hD1
      have hP : va_P (dC, dI) vwCl (wd_CS_even cI cJ cG cZ a0 a0_net a0_painter a0_polynomial a0_listCounter a0_setFinder a0_takingApart a0_greedyRun a0_allowed a0_shown a0_shades a0_attempt a0_net_near a0_net_tail a0_net_head a0_painter_paint a0_painter_near a0_painter_free a0_painter_uses r0_painter_free v0_net_nodes v0_net_arcCount v0_net_version w0_net_near v0_painter_items_3 v0_painter_evenly_14 v0_painter_palette_15 v0_painter_share_16 v0_painter_bigger_17 v0_painter_bigNow_21 w0_painter_paint_22 w0_painter_near_9 w0_painter_uses_23 w0_shown w0_painter_free_24) H1 := hP.part [0, 1, 2, 4, 5, 6, 7, 8, 3] rfl
      have hD : va_D A (wd_CS_even cI cJ cG cZ a0 a0_net a0_painter a0_polynomial a0_listCounter a0_setFinder a0_takingApart a0_greedyRun a0_allowed a0_shown a0_shades a0_attempt a0_net_near a0_net_tail a0_net_head a0_painter_paint a0_painter_near a0_painter_free a0_painter_uses r0_painter_free v0_net_nodes v0_net_arcCount v0_net_version w0_net_near v0_painter_items_3 v0_painter_evenly_14 v0_painter_palette_15 v0_painter_share_16 v0_painter_bigger_17 v0_painter_bigNow_21 w0_painter_paint_22 w0_painter_near_9 w0_painter_uses_23 w0_shown w0_painter_free_24) := hD.part [0, 1, 2, 4, 5, 6, 7, 8, 3] (by decide) rfl
      clear hP1 hK1 hD1 hk1 hPc hDc hFc ht hvm hz1
      generalize H1 = H at hP hS ⊢
      obtain ⟨⟨q_29, w0_shown_30⟩, hc_31, hm⟩ := gM_e hm
      dsimp only at hm
      have hPc : va_P (dC, dI) vwCl (wd_CS_showWhether cI cJ cG cZ a0 a0_net a0_painter a0_polynomial a0_listCounter a0_setFinder a0_takingApart a0_greedyRun a0_allowed a0_shown a0_shades a0_attempt a0_net_near a0_net_tail a0_net_head a0_painter_paint a0_painter_near a0_painter_free a0_painter_uses v0_net_nodes v0_net_arcCount v0_net_version v0_painter_items_3 v0_painter_evenly_14 v0_painter_palette_15 v0_painter_share_16 v0_painter_bigger_17 v0_painter_bigNow_21 w0_painter_paint_22 w0_shown) H := hP.sub [0, 1, 3, 4, 8] rfl
      have hDc : va_D A (wd_CS_showWhether cI cJ cG cZ a0 a0_net a0_painter a0_polynomial a0_listCounter a0_setFinder a0_takingApart a0_greedyRun a0_allowed a0_shown a0_shades a0_attempt a0_net_near a0_net_tail a0_net_head a0_painter_paint a0_painter_near a0_painter_free a0_painter_uses v0_net_nodes v0_net_arcCount v0_net_version v0_painter_items_3 v0_painter_evenly_14 v0_painter_palette_15 v0_painter_share_16 v0_painter_bigger_17 v0_painter_bigNow_21 w0_painter_paint_22 w0_shown) := hD.sub [0, 1, 3, 4, 8] (by decide) rfl
      have hFc : ∀ q, va_A (wd_CS_showWhether cI cJ cG cZ a0 a0_net a0_painter a0_polynomial a0_listCounter a0_setFinder a0_takingApart a0_greedyRun a0_allowed a0_shown a0_shades a0_attempt a0_net_near a0_net_tail a0_net_head a0_painter_paint a0_painter_near a0_painter_free a0_painter_uses v0_net_nodes v0_net_arcCount v0_net_version v0_painter_items_3 v0_painter_evenly_14 v0_painter_palette_15 v0_painter_share_16 v0_painter_bigger_17 v0_painter_bigNow_21 w0_painter_paint_22 w0_shown) H.size q → A q := va_free hD hS hA [0, 1, 3, 4, 8] rfl
      refine va_calli (va_runV (As := [.int q_20]) (rest := []) ⟨hx, hb, hml, hown, htt⟩ (c_CS_showWhether l dC dI cI cJ cG cZ a0 a0_net a0_painter a0_polynomial a0_listCounter a0_setFinder a0_takingApart a0_greedyRun a0_allowed a0_shown a0_shades a0_attempt a0_net_near a0_net_tail a0_net_head a0_painter_paint a0_painter_near a0_painter_free a0_painter_uses H.size F v0_net_nodes v0_net_arcCount v0_net_version v0_painter_items_3 v0_painter_evenly_14 v0_painter_palette_15 v0_painter_share_16 v0_painter_bigger_17 v0_painter_bigNow_21 w0_painter_paint_22 w0_shown q_20 q_29 w0_shown_30 hc_31) (cwV 1 htt (gdV kt_374 kt_376 kp_13 kt_1 kt_377) rfl rfl rfl (by decide +kernel) ⟨(Nat.le_of_ble_eq_true rfl), (Nat.le_of_ble_eq_true rfl)⟩) ⟨PcS_blind, va_recv hK hPc (ci := 0) (q0 := 0) rfl rfl, PcS_in hPc hK hDc hNw⟩ rfl rfl hl.1 rfl (lv_room (Nat.le_of_ble_eq_true rfl)) d_CS_even_45 ⟨Nat.zero_le _, Nat.zero_le _⟩) hS (fun q _ h => hFc q h) hFc (fun r_33 u t H1 locs ht hvm hw hB hz1 hk1 hS => ?_)
      obtain ⟨hP1, hK1, hD1⟩ := hB
      rw [ht] at hP1
      subst hw
      obtain ⟨hP, hD⟩ := va_joinQ (wr := [(a0_net_near, .inl (cI, 12, .inl w0_net_near)), (a0_painter_near, .inl (cI, 16, .inl w0_painter_near_9)), (a0_painter_free, .inl (cG, 18, .inr (.inr (.inr (.inr (gO r0_painter_free 18)))))), (a0_painter_uses, .inl (cI, 12, .inl w0_painter_uses_23))]) (w1 := (wd_CS_showWhether cI cJ cG cZ a0 a0_net a0_painter a0_polynomial a0_listCounter a0_setFinder a0_takingApart a0_greedyRun a0_allowed a0_shown a0_shades a0_attempt a0_net_near a0_net_tail a0_net_head a0_painter_paint a0_painter_near a0_painter_free a0_painter_uses v0_net_nodes v0_net_arcCount v0_net_version v0_painter_items_3 v0_painter_evenly_14 v0_painter_palette_15 v0_painter_share_16 v0_painter_bigger_17 v0_painter_bigNow_21 w0_painter_paint_22 w0_shown_30)) hP hD [0, 1, 3, 4, 8] [2, 5, 6, 7] rfl rfl (by decide) (by decide) hk1 hFc hP1 hD1
      have hP : va_P (dC, dI) vwCl (wd_CS_even cI cJ cG cZ a0 a0_net a0_painter a0_polynomial a0_listCounter a0_setFinder a0_takingApart a0_greedyRun a0_allowed a0_shown a0_shades a0_attempt a0_net_near a0_net_tail a0_net_head a0_painter_paint a0_painter_near a0_painter_free a0_painter_uses r0_painter_free v0_net_nodes v0_net_arcCount v0_net_version w0_net_near v0_painter_items_3 v0_painter_evenly_14 v0_painter_palette_15 v0_painter_share_16 v0_painter_bigger_17 v0_painter_bigNow_21 w0_painter_paint_22 w0_painter_near_9 w0_painter_uses_23 w0_shown_30 w0_painter_free_24) H1 := hP.part [4, 5, 0, 6, 7, 1, 2, 3, 8] rfl
      have hD : va_D A (wd_CS_even cI cJ cG cZ a0 a0_net a0_painter a0_polynomial a0_listCounter a0_setFinder a0_takingApart a0_greedyRun a0_allowed a0_shown a0_shades a0_attempt a0_net_near a0_net_tail a0_net_head a0_painter_paint a0_painter_near a0_painter_free a0_painter_uses r0_painter_free v0_net_nodes v0_net_arcCount v0_net_version w0_net_near v0_painter_items_3 v0_painter_evenly_14 v0_painter_palette_15 v0_painter_share_16 v0_painter_bigger_17 v0_painter_bigNow_21 w0_painter_paint_22 w0_painter_near_9 w0_painter_uses_23 w0_shown_30 w0_painter_free_24) := hD.part [4, 5, 0, 6, 7, 1, 2, 3, 8] (by decide) rfl
      clear hP1 hK1 hD1 hk1 hPc hDc hFc ht hvm hz1
      generalize H1 = H at hP hS ⊢
      cases hm
      exact W.iret hx hb hr (fun t ht hW => ⟨⟨_, (), rfl, rfl, by rw [ht]; exact hP, va_K.moved hW.alike hK, hD⟩, hS.F ht⟩) hS.2.2 d_CS_even_48
    · have hm := ite_f c_2 hm
      refine lv_iconst (v := (-1)) hx hb d_CS_even_11 (by decide) ?_
      cases hm
      exact W.iret hx hb hr (fun t ht hW => ⟨⟨_, (), rfl, rfl, by rw [ht]; exact hP, va_K.moved hW.alike hK, hD⟩, hS.F ht⟩) hS.2.2 d_CS_even_12
theorem d_CS_colour_0 : decode prog_1_method_7_code 0 = .ok (.aload_n 0, 1) := by decide +kernel
theorem d_CS_colour_1 : decode prog_1_method_7_code 1 = .ok (.getfield 12, 3) := by decide +kernel
theorem d_CS_colour_4 : decode prog_1_method_7_code 4 = .ok (.iload_n 1, 1) := by decide +kernel
theorem d_CS_colour_5 : decode prog_1_method_7_code 5 = .ok (.invokevirtual 118, 3) := by decide +kernel
theorem d_CS_colour_8 : decode prog_1_method_7_code 8 = .ok (.ifCond .eq 12, 3) := by decide +kernel
theorem d_CS_colour_11 : decode prog_1_method_7_code 11 = .ok (.aload_n 0, 1) := by decide +kernel
theorem d_CS_colour_12 : decode prog_1_method_7_code 12 = .ok (.getfield 62, 3) := by decide +kernel
theorem d_CS_colour_15 : decode prog_1_method_7_code 15 = .ok (.iload_n 1, 1) := by decide +kernel
theorem d_CS_colour_16 : decode prog_1_method_7_code 16 = .ok (.iaload, 1) := by decide +kernel
theorem d_CS_colour_17 : decode prog_1_method_7_code 17 = .ok (.goto 4, 3) := by decide +kernel
theorem d_CS_colour_20 : decode prog_1_method_7_code 20 = .ok (.iconst (-1), 1) := by decide +kernel
theorem d_CS_colour_21 : decode prog_1_method_7_code 21 = .ok (.ireturn, 1) := by decide +kernel
abbrev wd_CS_colour (cI cJ cG cZ : ClassId) (a0 a0_net a0_painter a0_polynomial a0_listCounter a0_setFinder a0_takingApart a0_greedyRun a0_allowed a0_shown a0_shades a0_attempt a0_net_near a0_net_tail a0_net_head : Nat) (v0_net_nodes : Int32) (v0_net_arcCount : Int32) (v0_net_version : Int32) (w0_shown : Nat → Int32) : va_W := [(a0, .inr (0, [.ref a0_net, .ref a0_painter, .ref a0_polynomial, .ref a0_listCounter, .ref a0_setFinder, .ref a0_takingApart, .ref a0_greedyRun, .ref a0_allowed, .ref a0_shown, .ref a0_shades, .ref a0_attempt])), (a0_net, .inr (1, [.ref a0_net_near, .ref a0_net_tail, .ref a0_net_head, .int v0_net_nodes, .int v0_net_arcCount, .int v0_net_version])), (a0_shown, .inl (cI, 12, .inl w0_shown))]
abbrev us_CS_colour : List Cond := .code y_CS_colour prog_1_method_7_code 2 (some .int) :: gtbl
abbrev rm_CS_colour : Room := { frames := 1, cells := 0, slots := 0, locals := 21 }
def m_CS_colour (F : Nat) (v0_net_nodes : Int32) (v0_net_arcCount : Int32) (v0_net_version : Int32) (w0_shown : Nat → Int32) (p1 : Int32) : Option (Int32) :=
  gM (m_Net_isNode F v0_net_nodes v0_net_arcCount v0_net_version p1) (fun q_1 =>
  if q_1 = 0 then (
    some (-1)
  ) else (
    gC (inb p1 12) (
    some (w0_shown p1.toNatClampNeg))
  ))
set_option maxHeartbeats 4000000 in
set_option maxRecDepth 100000 in
theorem c_CS_colour (l : Launch) (dC : Nat → ClassId) (dI : Nat → Nat → Nat) (cI cJ cG cZ : ClassId) (a0 a0_net a0_painter a0_polynomial a0_listCounter a0_setFinder a0_takingApart a0_greedyRun a0_allowed a0_shown a0_shades a0_attempt a0_net_near a0_net_tail a0_net_head : Nat) (sz : Nat) (F : Nat) (v0_net_nodes : Int32) (v0_net_arcCount : Int32) (v0_net_version : Int32) (w0_shown : Nat → Int32) (p1 : Int32) (ret : Int32) (hm : m_CS_colour F v0_net_nodes v0_net_arcCount v0_net_version w0_shown p1 = some ret) : Met l y_CS_colour us_CS_colour rm_CS_colour (PcS (dC, dI) (tyL cI cJ cG cZ) [.ref a0, .int p1] sz (wd_CS_colour cI cJ cG cZ a0 a0_net a0_painter a0_polynomial a0_listCounter a0_setFinder a0_takingApart a0_greedyRun a0_allowed a0_shown a0_shades a0_attempt a0_net_near a0_net_tail a0_net_head v0_net_nodes v0_net_arcCount v0_net_version w0_shown)) (va_Qi (fun (r : Int32) (_ : Unit) => ret = r) (fun _ t => PoS (dC, dI) (tyL cI cJ cG cZ) (wd_CS_colour cI cJ cG cZ a0 a0_net a0_painter a0_polynomial a0_listCounter a0_setFinder a0_takingApart a0_greedyRun a0_allowed a0_shown a0_shades a0_attempt a0_net_near a0_net_tail a0_net_head v0_net_nodes v0_net_arcCount v0_net_version w0_shown) (va_A (wd_CS_colour cI cJ cG cZ a0 a0_net a0_painter a0_polynomial a0_listCounter a0_setFinder a0_takingApart a0_greedyRun a0_allowed a0_shown a0_shades a0_attempt a0_net_near a0_net_tail a0_net_head v0_net_nodes v0_net_arcCount v0_net_version w0_shown) sz) t) (va_A (wd_CS_colour cI cJ cG cZ a0 a0_net a0_painter a0_polynomial a0_listCounter a0_setFinder a0_takingApart a0_greedyRun a0_allowed a0_shown a0_shades a0_attempt a0_net_near a0_net_tail a0_net_head v0_net_nodes v0_net_arcCount v0_net_version w0_shown) sz)) 0 0 (va_A (wd_CS_colour cI cJ cG cZ a0 a0_net a0_painter a0_polynomial a0_listCounter a0_setFinder a0_takingApart a0_greedyRun a0_allowed a0_shown a0_shades a0_attempt a0_net_near a0_net_tail a0_net_head v0_net_nodes v0_net_arcCount v0_net_version w0_shown) sz) := by
  refine Met.ofW (cc := prog_1_method_7_code) (maxL := 2) (ret := (some .int)) (by decide) rfl ?_
  intro p e s m args below meth c s₁ B hml hv
  obtain ⟨rfl, hsz, hP, hK, hD0, hNw⟩ := hv
  have hx := B.exec
  have hb := B.bytes
  have hr := B.returns
  have htt : ∀ w ∈ gtbl, w.before _ s = true := fun w h => atoms_spec (ws := us_CS_colour) B.pre w (List.mem_cons_of_mem _ h)
  have hown : s.vm.findClass R_CS = some m.cls := findClass_of_methodNamed B.named
  have hlocks := B.notSynchronized
  subst hsz
  have hD := hD0.self (sz := s.heap.size)
  generalize hAe : va_A (wd_CS_colour cI cJ cG cZ a0 a0_net a0_painter a0_polynomial a0_listCounter a0_setFinder a0_takingApart a0_greedyRun a0_allowed a0_shown a0_shades a0_attempt a0_net_near a0_net_tail a0_net_head v0_net_nodes v0_net_arcCount v0_net_version w0_shown) s.heap.size = A at hD ⊢
  have hA : ∀ q : Nat, s.heap.size ≤ q → A q := fun q h => by rw [← hAe]; exact Or.inr h
  clear hAe hD0
  have hS : va_S A s.heap s.heap [] := va_S.rf
  have hl := lv_entry ([.ref a0, .int p1]) (n := 2) (Nat.le_of_ble_eq_true rfl)
  rw [lg_entry_eq]
  generalize (lg_sl ([.ref a0, .int p1]) ++ List.replicate (2 - (lg_sl ([.ref a0, .int p1])).length) Slot.unset).toArray = ls at hl ⊢
  have hl : lv_has ls 2 [(0, .ref a0), (1, .int p1)] := hl
  generalize hH : s.heap = H at hP ⊢
  have hS : va_S A s.heap H [] := hH ▸ hS
  generalize hLo : ([] : List Loc) = locs at hS ⊢
  clear hH hLo
  unfold m_CS_colour at hm
  refine lv_aload_n hx hb d_CS_colour_0 rfl (lv_at hl 0 rfl) ?_
  refine va_get (D := (dC, dI)) (ci := 0) (v := .ref a0_net) (C := R_CS) (T := T_CS) (N := 11) hx hb htt hin_CS hown hK hP 0 rfl rfl 0 (by decide) (htt _ kt_224) (fun _ h9 => h9) rfl d_CS_colour_1 ?_
  refine lv_iload_n hx hb d_CS_colour_4 rfl (lv_at hl 1 rfl) ?_
  obtain ⟨q_1, hc_2, hm⟩ := gM_e hm
  have hPc : va_P (dC, dI) vwCl (wd_Net_isNode cI cJ cG cZ a0_net a0_net_near a0_net_tail a0_net_head v0_net_nodes v0_net_arcCount v0_net_version) H := hP.sub [1] rfl
  have hDc : va_D A (wd_Net_isNode cI cJ cG cZ a0_net a0_net_near a0_net_tail a0_net_head v0_net_nodes v0_net_arcCount v0_net_version) := hD.sub [1] (by decide) rfl
  have hFc : ∀ q, va_A (wd_Net_isNode cI cJ cG cZ a0_net a0_net_near a0_net_tail a0_net_head v0_net_nodes v0_net_arcCount v0_net_version) H.size q → A q := va_free hD hS hA [1] rfl
  refine va_calli (va_runV (As := [.int p1]) (rest := []) ⟨hx, hb, hml, hown, htt⟩ (c_Net_isNode l dC dI cI cJ cG cZ a0_net a0_net_near a0_net_tail a0_net_head H.size F v0_net_nodes v0_net_arcCount v0_net_version p1 q_1 hc_2) (cwV 1 htt (gdV kt_382 kt_275 kt_276 kt_2 kt_277) rfl rfl rfl (by decide +kernel) ⟨(Nat.le_of_ble_eq_true rfl), (Nat.le_of_ble_eq_true rfl)⟩) ⟨PcS_blind, va_recv hK hPc (ci := 1) (q0 := 0) rfl rfl, PcS_in hPc hK hDc hNw⟩ rfl rfl hl.1 rfl (lv_room (Nat.le_of_ble_eq_true rfl)) d_CS_colour_5 ⟨Nat.zero_le _, Nat.zero_le _⟩) hS (fun q _ h => hFc q h) hFc (fun r_3 u t H1 locs ht hvm hw hB hz1 hk1 hS => ?_)
  obtain ⟨hP1, hK1, hD1⟩ := hB
  rw [ht] at hP1
  obtain ⟨hw, hz_4⟩ := hw
  subst hw
  obtain ⟨hP, hD⟩ := va_join (wr := [(a0, .inr (0, [.ref a0_net, .ref a0_painter, .ref a0_polynomial, .ref a0_listCounter, .ref a0_setFinder, .ref a0_takingApart, .ref a0_greedyRun, .ref a0_allowed, .ref a0_shown, .ref a0_shades, .ref a0_attempt])), (a0_shown, .inl (cI, 12, .inl w0_shown))]) (w1 := (wd_Net_isNode cI cJ cG cZ a0_net a0_net_near a0_net_tail a0_net_head v0_net_nodes v0_net_arcCount v0_net_version)) hP hD [1] [0, 2] rfl rfl (by decide) (by decide) hk1 hFc hP1 hD1
  have hP : va_P (dC, dI) vwCl (wd_CS_colour cI cJ cG cZ a0 a0_net a0_painter a0_polynomial a0_listCounter a0_setFinder a0_takingApart a0_greedyRun a0_allowed a0_shown a0_shades a0_attempt a0_net_near a0_net_tail a0_net_head v0_net_nodes v0_net_arcCount v0_net_version w0_shown) H1 := hP.sub [0, 2, 1] rfl
  have hD : va_D A (wd_CS_colour cI cJ cG cZ a0 a0_net a0_painter a0_polynomial a0_listCounter a0_setFinder a0_takingApart a0_greedyRun a0_allowed a0_shown a0_shades a0_attempt a0_net_near a0_net_tail a0_net_head v0_net_nodes v0_net_arcCount v0_net_version w0_shown) := hD.sub [0, 2, 1] (by decide) rfl
  clear hP1 hK1 hD1 hk1 hPc hDc hFc ht hvm hz1
  generalize H1 = H at hP hS ⊢
  refine lv_if_eq (tgt := 20) hx hb d_CS_colour_8 (by decide) (fun c_5 => ?_) (fun c_5 => ?_)
  · have hm := ite_t c_5 hm
    refine lv_iconst (v := (-1)) hx hb d_CS_colour_20 (by decide) ?_
    cases hm
    exact W.iret hx hb hr (fun t ht hW => ⟨⟨_, (), rfl, rfl, by rw [ht]; exact hP, va_K.moved hW.alike hK, hD⟩, hS.F ht⟩) hS.2.2 d_CS_colour_21
  · have hm := ite_f c_5 hm
    refine lv_aload_n hx hb d_CS_colour_11 rfl (lv_at hl 0 rfl) ?_
    refine va_get (D := (dC, dI)) (ci := 0) (v := .ref a0_shown) (C := R_CS) (T := T_CS) (N := 11) hx hb htt hin_CS hown hK hP 0 rfl rfl 8 (by decide) (htt _ kt_232) (fun _ h9 => h9) rfl d_CS_colour_12 ?_
    refine lv_iload_n hx hb d_CS_colour_15 rfl (lv_at hl 1 rfl) ?_
    obtain ⟨hi_6, hm⟩ := gC_e hm
    refine va_iald hx hb hK hP 2 0 rfl rfl (inb_vp hi_6) d_CS_colour_16 ?_
    refine lv_goto (tgt := 21) hx hb d_CS_colour_17 (by decide) ?_
    cases hm
    exact W.iret hx hb hr (fun t ht hW => ⟨⟨_, (), rfl, rfl, by rw [ht]; exact hP, va_K.moved hW.alike hK, hD⟩, hS.F ht⟩) hS.2.2 d_CS_colour_21
theorem d_CS_ways_0 : decode prog_1_method_8_code 0 = .ok (.aload_n 0, 1) := by decide +kernel
theorem d_CS_ways_1 : decode prog_1_method_8_code 1 = .ok (.getfield 26, 3) := by decide +kernel
theorem d_CS_ways_4 : decode prog_1_method_8_code 4 = .ok (.aload_n 0, 1) := by decide +kernel
theorem d_CS_ways_5 : decode prog_1_method_8_code 5 = .ok (.getfield 12, 3) := by decide +kernel
theorem d_CS_ways_8 : decode prog_1_method_8_code 8 = .ok (.lload_n 1, 1) := by decide +kernel
theorem d_CS_ways_9 : decode prog_1_method_8_code 9 = .ok (.invokevirtual 122, 3) := by decide +kernel
theorem d_CS_ways_12 : decode prog_1_method_8_code 12 = .ok (.lreturn, 1) := by decide +kernel
abbrev wd_CS_ways (cI cJ cG cZ : ClassId) (a0 a0_net a0_painter a0_polynomial a0_listCounter a0_setFinder a0_takingApart a0_greedyRun a0_allowed a0_shown a0_shades a0_attempt a0_net_near a0_net_tail a0_net_head a0_polynomial_near a0_polynomial_nodes a0_polynomial_factors a0_polynomial_powers a0_polynomial_product : Nat) (r0_polynomial_near : Nat → Nat) (v0_net_nodes : Int32) (v0_net_arcCount : Int32) (v0_net_version : Int32) (w0_net_near : Nat → Int32) (v0_polynomial_versionSeen : Int32) (w0_polynomial_nodes : Nat → Int32) (w0_polynomial_factors : Nat → Int64) (w0_polynomial_powers : Nat → Int64) (w0_polynomial_product : Nat → Int64) (w0_polynomial_near : Nat → Nat → Int32) : va_W := [(a0, .inr (0, [.ref a0_net, .ref a0_painter, .ref a0_polynomial, .ref a0_listCounter, .ref a0_setFinder, .ref a0_takingApart, .ref a0_greedyRun, .ref a0_allowed, .ref a0_shown, .ref a0_shades, .ref a0_attempt])), (a0_net, .inr (1, [.ref a0_net_near, .ref a0_net_tail, .ref a0_net_head, .int v0_net_nodes, .int v0_net_arcCount, .int v0_net_version])), (a0_net_near, .inl (cI, 12, .inl w0_net_near)), (a0_polynomial, .inr (3, [.ref a0_polynomial_near, .ref a0_polynomial_nodes, .ref a0_polynomial_factors, .ref a0_polynomial_powers, .ref a0_polynomial_product, .int v0_polynomial_versionSeen])), (a0_polynomial_near, .inl (cG, 68, .inr (.inr (.inr (.inr (gO r0_polynomial_near 68)))))), (a0_polynomial_nodes, .inl (cI, 68, .inl w0_polynomial_nodes)), (a0_polynomial_factors, .inl (cJ, 68, .inr (.inl w0_polynomial_factors))), (a0_polynomial_powers, .inl (cJ, 13, .inr (.inl w0_polynomial_powers))), (a0_polynomial_product, .inl (cJ, 13, .inr (.inl w0_polynomial_product)))] ++ rowsW r0_polynomial_near cI 12 68 w0_polynomial_near
abbrev we_CS_ways (cI cJ cG cZ : ClassId) (a0 a0_net a0_painter a0_polynomial a0_listCounter a0_setFinder a0_takingApart a0_greedyRun a0_allowed a0_shown a0_shades a0_attempt a0_net_near a0_net_tail a0_net_head a0_polynomial_near a0_polynomial_nodes a0_polynomial_factors a0_polynomial_powers a0_polynomial_product : Nat) (r0_polynomial_near : Nat → Nat) (v0_net_nodes : Int32) (v0_net_arcCount : Int32) (v0_net_version : Int32) (w0_net_near : Nat → Int32) (v0_polynomial_versionSeen : Int32) (w0_polynomial_nodes : Nat → Int32) (w0_polynomial_factors : Nat → Int64) (w0_polynomial_powers : Nat → Int64) (w0_polynomial_product : Nat → Int64) (w0_polynomial_near : Nat → Nat → Int32) : va_W := [(a0, .inr (0, [.ref a0_net, .ref a0_painter, .ref a0_polynomial, .ref a0_listCounter, .ref a0_setFinder, .ref a0_takingApart, .ref a0_greedyRun, .ref a0_allowed, .ref a0_shown, .ref a0_shades, .ref a0_attempt])), (a0_net, .inr (1, [.ref a0_net_near, .ref a0_net_tail, .ref a0_net_head, .int v0_net_nodes, .int v0_net_arcCount, .int v0_net_version])), (a0_net_near, .inl (cI, 12, .inl w0_net_near)), (a0_polynomial, .inr (3, [.ref a0_polynomial_near, .ref a0_polynomial_nodes, .ref a0_polynomial_factors, .ref a0_polynomial_powers, .ref a0_polynomial_product, .int v0_polynomial_versionSeen])), (a0_polynomial_near, .inl (cG, 68, .inr (.inr (.inr (.inr (gO r0_polynomial_near 68)))))), (a0_polynomial_nodes, .inl (cI, 68, .inl w0_polynomial_nodes)), (a0_polynomial_factors, .inl (cJ, 68, .inr (.inl w0_polynomial_factors))), (a0_polynomial_powers, .inl (cJ, 13, .inr (.inl w0_polynomial_powers))), (a0_polynomial_product, .inl (cJ, 13, .inr (.inl w0_polynomial_product)))]
abbrev us_CS_ways : List Cond := .code y_CS_ways prog_1_method_8_code 3 (some .long) :: gtbl
abbrev rm_CS_ways : Room := { frames := 5, cells := 0, slots := 0, locals := 116 }
def m_CS_ways (F : Nat) (v0_net_nodes : Int32) (v0_net_arcCount : Int32) (v0_net_version : Int32) (w0_net_near : Nat → Int32) (v0_polynomial_versionSeen : Int32) (w0_polynomial_nodes : Nat → Int32) (w0_polynomial_factors : Nat → Int64) (w0_polynomial_powers : Nat → Int64) (w0_polynomial_product : Nat → Int64) (w0_polynomial_near : Nat → Nat → Int32) (p1 : Int64) : Option (Int64 × Int32 × (Nat → Int32) × (Nat → Int64) × (Nat → Int64) × (Nat → Int64) × (Nat → Nat → Int32)) :=
  gM (m_Pol_valueAt F v0_polynomial_versionSeen w0_polynomial_nodes w0_polynomial_factors w0_polynomial_powers w0_polynomial_product v0_net_nodes v0_net_arcCount v0_net_version w0_net_near w0_polynomial_near p1) (fun (z_9 : Int64 × Int32 × (Nat → Int32) × (Nat → Int64) × (Nat → Int64) × (Nat → Int64) × (Nat → Nat → Int32)) => match z_9 with
  | (q_1, v0_polynomial_versionSeen_2, w0_polynomial_nodes_3, w0_polynomial_factors_4, w0_polynomial_powers_5, w0_polynomial_product_6, w0_polynomial_near_7) =>
  some (q_1, v0_polynomial_versionSeen_2, w0_polynomial_nodes_3, w0_polynomial_factors_4, w0_polynomial_powers_5, w0_polynomial_product_6, w0_polynomial_near_7))
set_option maxHeartbeats 4000000 in
set_option maxRecDepth 100000 in
theorem c_CS_ways (l : Launch) (dC : Nat → ClassId) (dI : Nat → Nat → Nat) (cI cJ cG cZ : ClassId) (a0 a0_net a0_painter a0_polynomial a0_listCounter a0_setFinder a0_takingApart a0_greedyRun a0_allowed a0_shown a0_shades a0_attempt a0_net_near a0_net_tail a0_net_head a0_polynomial_near a0_polynomial_nodes a0_polynomial_factors a0_polynomial_powers a0_polynomial_product : Nat) (r0_polynomial_near : Nat → Nat) (sz : Nat) (F : Nat) (v0_net_nodes : Int32) (v0_net_arcCount : Int32) (v0_net_version : Int32) (w0_net_near : Nat → Int32) (v0_polynomial_versionSeen : Int32) (w0_polynomial_nodes : Nat → Int32) (w0_polynomial_factors : Nat → Int64) (w0_polynomial_powers : Nat → Int64) (w0_polynomial_product : Nat → Int64) (w0_polynomial_near : Nat → Nat → Int32) (p1 : Int64) (ret : Int64) (o_v0_polynomial_versionSeen : Int32) (o_w0_polynomial_nodes : Nat → Int32) (o_w0_polynomial_factors : Nat → Int64) (o_w0_polynomial_powers : Nat → Int64) (o_w0_polynomial_product : Nat → Int64) (o_w0_polynomial_near : Nat → Nat → Int32) (hm : m_CS_ways F v0_net_nodes v0_net_arcCount v0_net_version w0_net_near v0_polynomial_versionSeen w0_polynomial_nodes w0_polynomial_factors w0_polynomial_powers w0_polynomial_product w0_polynomial_near p1 = some (ret, o_v0_polynomial_versionSeen, o_w0_polynomial_nodes, o_w0_polynomial_factors, o_w0_polynomial_powers, o_w0_polynomial_product, o_w0_polynomial_near)) : Met l y_CS_ways us_CS_ways rm_CS_ways (PcS (dC, dI) (tyL cI cJ cG cZ) [.ref a0, .long p1] sz (wd_CS_ways cI cJ cG cZ a0 a0_net a0_painter a0_polynomial a0_listCounter a0_setFinder a0_takingApart a0_greedyRun a0_allowed a0_shown a0_shades a0_attempt a0_net_near a0_net_tail a0_net_head a0_polynomial_near a0_polynomial_nodes a0_polynomial_factors a0_polynomial_powers a0_polynomial_product r0_polynomial_near v0_net_nodes v0_net_arcCount v0_net_version w0_net_near v0_polynomial_versionSeen w0_polynomial_nodes w0_polynomial_factors w0_polynomial_powers w0_polynomial_product w0_polynomial_near)) (va_Ql (fun (r : Int64) (_ : Unit) => ret = r) (fun _ t => PoS (dC, dI) (tyL cI cJ cG cZ) (wd_CS_ways cI cJ cG cZ a0 a0_net a0_painter a0_polynomial a0_listCounter a0_setFinder a0_takingApart a0_greedyRun a0_allowed a0_shown a0_shades a0_attempt a0_net_near a0_net_tail a0_net_head a0_polynomial_near a0_polynomial_nodes a0_polynomial_factors a0_polynomial_powers a0_polynomial_product r0_polynomial_near v0_net_nodes v0_net_arcCount v0_net_version w0_net_near o_v0_polynomial_versionSeen o_w0_polynomial_nodes o_w0_polynomial_factors o_w0_polynomial_powers o_w0_polynomial_product o_w0_polynomial_near) (va_A (wd_CS_ways cI cJ cG cZ a0 a0_net a0_painter a0_polynomial a0_listCounter a0_setFinder a0_takingApart a0_greedyRun a0_allowed a0_shown a0_shades a0_attempt a0_net_near a0_net_tail a0_net_head a0_polynomial_near a0_polynomial_nodes a0_polynomial_factors a0_polynomial_powers a0_polynomial_product r0_polynomial_near v0_net_nodes v0_net_arcCount v0_net_version w0_net_near v0_polynomial_versionSeen w0_polynomial_nodes w0_polynomial_factors w0_polynomial_powers w0_polynomial_product w0_polynomial_near) sz) t) (va_A (wd_CS_ways cI cJ cG cZ a0 a0_net a0_painter a0_polynomial a0_listCounter a0_setFinder a0_takingApart a0_greedyRun a0_allowed a0_shown a0_shades a0_attempt a0_net_near a0_net_tail a0_net_head a0_polynomial_near a0_polynomial_nodes a0_polynomial_factors a0_polynomial_powers a0_polynomial_product r0_polynomial_near v0_net_nodes v0_net_arcCount v0_net_version w0_net_near v0_polynomial_versionSeen w0_polynomial_nodes w0_polynomial_factors w0_polynomial_powers w0_polynomial_product w0_polynomial_near) sz)) 0 0 (va_A (wd_CS_ways cI cJ cG cZ a0 a0_net a0_painter a0_polynomial a0_listCounter a0_setFinder a0_takingApart a0_greedyRun a0_allowed a0_shown a0_shades a0_attempt a0_net_near a0_net_tail a0_net_head a0_polynomial_near a0_polynomial_nodes a0_polynomial_factors a0_polynomial_powers a0_polynomial_product r0_polynomial_near v0_net_nodes v0_net_arcCount v0_net_version w0_net_near v0_polynomial_versionSeen w0_polynomial_nodes w0_polynomial_factors w0_polynomial_powers w0_polynomial_product w0_polynomial_near) sz) := by
  refine Met.ofW (cc := prog_1_method_8_code) (maxL := 3) (ret := (some .long)) (by decide) rfl ?_
  intro p e s m args below meth c s₁ B hml hv
  obtain ⟨rfl, hsz, hP, hK, hD0, hNw⟩ := hv
  have hx := B.exec
  have hb := B.bytes
  have hr := B.returns
  have htt : ∀ w ∈ gtbl, w.before _ s = true := fun w h => atoms_spec (ws := us_CS_ways) B.pre w (List.mem_cons_of_mem _ h)
  have hown : s.vm.findClass R_CS = some m.cls := findClass_of_methodNamed B.named
  have hlocks := B.notSynchronized
  subst hsz
  have hD := hD0.self (sz := s.heap.size)
  generalize hAe : va_A (wd_CS_ways cI cJ cG cZ a0 a0_net a0_painter a0_polynomial a0_listCounter a0_setFinder a0_takingApart a0_greedyRun a0_allowed a0_shown a0_shades a0_attempt a0_net_near a0_net_tail a0_net_head a0_polynomial_near a0_polynomial_nodes a0_polynomial_factors a0_polynomial_powers a0_polynomial_product r0_polynomial_near v0_net_nodes v0_net_arcCount v0_net_version w0_net_near v0_polynomial_versionSeen w0_polynomial_nodes w0_polynomial_factors w0_polynomial_powers w0_polynomial_product w0_polynomial_near) s.heap.size = A at hD ⊢
  have hA : ∀ q : Nat, s.heap.size ≤ q → A q := fun q h => by rw [← hAe]; exact Or.inr h
  clear hAe hD0
  have hS : va_S A s.heap s.heap [] := va_S.rf
  have hl := lv_entry ([.ref a0, .long p1]) (n := 3) (Nat.le_of_ble_eq_true rfl)
  rw [lg_entry_eq]
  generalize (lg_sl ([.ref a0, .long p1]) ++ List.replicate (3 - (lg_sl ([.ref a0, .long p1])).length) Slot.unset).toArray = ls at hl ⊢
  have hl : lv_has ls 3 [(0, .ref a0), (1, .long p1)] := hl
  generalize hH : s.heap = H at hP ⊢
  have hS : va_S A s.heap H [] := hH ▸ hS
  generalize hLo : ([] : List Loc) = locs at hS ⊢
  clear hH hLo
  unfold m_CS_ways at hm
  refine lv_aload_n hx hb d_CS_ways_0 rfl (lv_at hl 0 rfl) ?_
  refine va_get (D := (dC, dI)) (ci := 0) (v := .ref a0_polynomial) (C := R_CS) (T := T_CS) (N := 11) hx hb htt hin_CS hown hK hP 0 rfl rfl 2 (by decide) (htt _ kt_226) (fun _ h9 => h9) rfl d_CS_ways_1 ?_
  refine lv_aload_n hx hb d_CS_ways_4 rfl (lv_at hl 0 rfl) ?_
  refine va_get (D := (dC, dI)) (ci := 0) (v := .ref a0_net) (C := R_CS) (T := T_CS) (N := 11) hx hb htt hin_CS hown hK hP 0 rfl rfl 0 (by decide) (htt _ kt_224) (fun _ h9 => h9) rfl d_CS_ways_5 ?_
  refine lv_lload_n hx hb d_CS_ways_8 rfl (lv_at hl 1 rfl) ?_
  obtain ⟨⟨q_1, v0_polynomial_versionSeen_2, w0_polynomial_nodes_3, w0_polynomial_factors_4, w0_polynomial_powers_5, w0_polynomial_product_6, w0_polynomial_near_7⟩, hc_8, hm⟩ := gM_e hm
  dsimp only at hm
  have hPc : va_P (dC, dI) vwCl (wd_Pol_valueAt cI cJ cG cZ a0_polynomial a0_net a0_polynomial_near a0_polynomial_nodes a0_polynomial_factors a0_polynomial_powers a0_polynomial_product a0_net_near a0_net_tail a0_net_head r0_polynomial_near v0_polynomial_versionSeen w0_polynomial_nodes w0_polynomial_factors w0_polynomial_powers w0_polynomial_product v0_net_nodes v0_net_arcCount v0_net_version w0_net_near w0_polynomial_near) H := hP.part [3, 4, 5, 6, 7, 8, 1, 2] rfl
  have hDc : va_D A (wd_Pol_valueAt cI cJ cG cZ a0_polynomial a0_net a0_polynomial_near a0_polynomial_nodes a0_polynomial_factors a0_polynomial_powers a0_polynomial_product a0_net_near a0_net_tail a0_net_head r0_polynomial_near v0_polynomial_versionSeen w0_polynomial_nodes w0_polynomial_factors w0_polynomial_powers w0_polynomial_product v0_net_nodes v0_net_arcCount v0_net_version w0_net_near w0_polynomial_near) := hD.part [3, 4, 5, 6, 7, 8, 1, 2] (by decide) rfl
  have hFc : ∀ q, va_A (wd_Pol_valueAt cI cJ cG cZ a0_polynomial a0_net a0_polynomial_near a0_polynomial_nodes a0_polynomial_factors a0_polynomial_powers a0_polynomial_product a0_net_near a0_net_tail a0_net_head r0_polynomial_near v0_polynomial_versionSeen w0_polynomial_nodes w0_polynomial_factors w0_polynomial_powers w0_polynomial_product v0_net_nodes v0_net_arcCount v0_net_version w0_net_near w0_polynomial_near) H.size q → A q := va_freeP hD hS hA [3, 4, 5, 6, 7, 8, 1, 2] rfl
  refine va_calll (va_runV (As := [.ref a0_net, .long p1]) (rest := []) ⟨hx, hb, hml, hown, htt⟩ (c_Pol_valueAt l dC dI cI cJ cG cZ a0_polynomial a0_net a0_polynomial_near a0_polynomial_nodes a0_polynomial_factors a0_polynomial_powers a0_polynomial_product a0_net_near a0_net_tail a0_net_head r0_polynomial_near H.size F v0_polynomial_versionSeen w0_polynomial_nodes w0_polynomial_factors w0_polynomial_powers w0_polynomial_product v0_net_nodes v0_net_arcCount v0_net_version w0_net_near w0_polynomial_near p1 q_1 v0_polynomial_versionSeen_2 w0_polynomial_nodes_3 w0_polynomial_factors_4 w0_polynomial_powers_5 w0_polynomial_product_6 w0_polynomial_near_7 hc_8) (cwV 2 htt (gdV kt_387 kt_388 kt_389 kt_4 kt_390) rfl rfl rfl (by decide +kernel) ⟨(Nat.le_of_ble_eq_true rfl), (Nat.le_of_ble_eq_true rfl)⟩) ⟨PcS_blind, va_recv hK hPc (ci := 3) (q0 := 0) rfl rfl, PcS_in hPc hK hDc hNw⟩ rfl rfl hl.1 rfl (lv_room (Nat.le_of_ble_eq_true rfl)) d_CS_ways_9 ⟨Nat.zero_le _, Nat.zero_le _⟩) hS (fun q _ h => hFc q h) hFc (fun r_10 u t H1 locs ht hvm hw hB hz1 hk1 hS => ?_)
  obtain ⟨hP1, hK1, hD1⟩ := hB
  rw [ht] at hP1
  subst hw
  obtain ⟨hP, hD⟩ := va_joinP (wr := [(a0, .inr (0, [.ref a0_net, .ref a0_painter, .ref a0_polynomial, .ref a0_listCounter, .ref a0_setFinder, .ref a0_takingApart, .ref a0_greedyRun, .ref a0_allowed, .ref a0_shown, .ref a0_shades, .ref a0_attempt]))]) (rx := (we_Pol_valueAt cI cJ cG cZ a0_polynomial a0_net a0_polynomial_near a0_polynomial_nodes a0_polynomial_factors a0_polynomial_powers a0_polynomial_product a0_net_near a0_net_tail a0_net_head r0_polynomial_near v0_polynomial_versionSeen_2 w0_polynomial_nodes_3 w0_polynomial_factors_4 w0_polynomial_powers_5 w0_polynomial_product_6 v0_net_nodes v0_net_arcCount v0_net_version w0_net_near w0_polynomial_near_7)) hP hD [3, 4, 5, 6, 7, 8, 1, 2] [0] rfl rfl (by decide) (by decide) hk1 hFc hP1 hD1
  have hP : va_P (dC, dI) vwCl (wd_CS_ways cI cJ cG cZ a0 a0_net a0_painter a0_polynomial a0_listCounter a0_setFinder a0_takingApart a0_greedyRun a0_allowed a0_shown a0_shades a0_attempt a0_net_near a0_net_tail a0_net_head a0_polynomial_near a0_polynomial_nodes a0_polynomial_factors a0_polynomial_powers a0_polynomial_product r0_polynomial_near v0_net_nodes v0_net_arcCount v0_net_version w0_net_near v0_polynomial_versionSeen_2 w0_polynomial_nodes_3 w0_polynomial_factors_4 w0_polynomial_powers_5 w0_polynomial_product_6 w0_polynomial_near_7) H1 := hP.part [0, 7, 8, 1, 2, 3, 4, 5, 6] rfl
  have hD : va_D A (wd_CS_ways cI cJ cG cZ a0 a0_net a0_painter a0_polynomial a0_listCounter a0_setFinder a0_takingApart a0_greedyRun a0_allowed a0_shown a0_shades a0_attempt a0_net_near a0_net_tail a0_net_head a0_polynomial_near a0_polynomial_nodes a0_polynomial_factors a0_polynomial_powers a0_polynomial_product r0_polynomial_near v0_net_nodes v0_net_arcCount v0_net_version w0_net_near v0_polynomial_versionSeen_2 w0_polynomial_nodes_3 w0_polynomial_factors_4 w0_polynomial_powers_5 w0_polynomial_product_6 w0_polynomial_near_7) := hD.part [0, 7, 8, 1, 2, 3, 4, 5, 6] (by decide) rfl
  clear hP1 hK1 hD1 hk1 hPc hDc hFc ht hvm hz1
  generalize H1 = H at hP hS ⊢
  cases hm
  exact W.lret hx hb hr (fun t ht hW => ⟨⟨_, (), rfl, rfl, by rw [ht]; exact hP, va_K.moved hW.alike hK, hD⟩, hS.F ht⟩) hS.2.2 d_CS_ways_12
theorem d_CS_coefficient_0 : decode prog_1_method_9_code 0 = .ok (.aload_n 0, 1) := by decide +kernel
theorem d_CS_coefficient_1 : decode prog_1_method_9_code 1 = .ok (.getfield 26, 3) := by decide +kernel
theorem d_CS_coefficient_4 : decode prog_1_method_9_code 4 = .ok (.aload_n 0, 1) := by decide +kernel
theorem d_CS_coefficient_5 : decode prog_1_method_9_code 5 = .ok (.getfield 12, 3) := by decide +kernel
theorem d_CS_coefficient_8 : decode prog_1_method_9_code 8 = .ok (.iload_n 1, 1) := by decide +kernel
theorem d_CS_coefficient_9 : decode prog_1_method_9_code 9 = .ok (.invokevirtual 126, 3) := by decide +kernel
theorem d_CS_coefficient_12 : decode prog_1_method_9_code 12 = .ok (.lreturn, 1) := by decide +kernel
abbrev wd_CS_coefficient (cI cJ cG cZ : ClassId) (a0 a0_net a0_painter a0_polynomial a0_listCounter a0_setFinder a0_takingApart a0_greedyRun a0_allowed a0_shown a0_shades a0_attempt a0_net_near a0_net_tail a0_net_head a0_polynomial_near a0_polynomial_nodes a0_polynomial_factors a0_polynomial_powers a0_polynomial_product : Nat) (r0_polynomial_near : Nat → Nat) (v0_net_nodes : Int32) (v0_net_arcCount : Int32) (v0_net_version : Int32) (w0_net_near : Nat → Int32) (v0_polynomial_versionSeen : Int32) (w0_polynomial_nodes : Nat → Int32) (w0_polynomial_factors : Nat → Int64) (w0_polynomial_powers : Nat → Int64) (w0_polynomial_product : Nat → Int64) (w0_polynomial_near : Nat → Nat → Int32) : va_W := [(a0, .inr (0, [.ref a0_net, .ref a0_painter, .ref a0_polynomial, .ref a0_listCounter, .ref a0_setFinder, .ref a0_takingApart, .ref a0_greedyRun, .ref a0_allowed, .ref a0_shown, .ref a0_shades, .ref a0_attempt])), (a0_net, .inr (1, [.ref a0_net_near, .ref a0_net_tail, .ref a0_net_head, .int v0_net_nodes, .int v0_net_arcCount, .int v0_net_version])), (a0_net_near, .inl (cI, 12, .inl w0_net_near)), (a0_polynomial, .inr (3, [.ref a0_polynomial_near, .ref a0_polynomial_nodes, .ref a0_polynomial_factors, .ref a0_polynomial_powers, .ref a0_polynomial_product, .int v0_polynomial_versionSeen])), (a0_polynomial_near, .inl (cG, 68, .inr (.inr (.inr (.inr (gO r0_polynomial_near 68)))))), (a0_polynomial_nodes, .inl (cI, 68, .inl w0_polynomial_nodes)), (a0_polynomial_factors, .inl (cJ, 68, .inr (.inl w0_polynomial_factors))), (a0_polynomial_powers, .inl (cJ, 13, .inr (.inl w0_polynomial_powers))), (a0_polynomial_product, .inl (cJ, 13, .inr (.inl w0_polynomial_product)))] ++ rowsW r0_polynomial_near cI 12 68 w0_polynomial_near
abbrev we_CS_coefficient (cI cJ cG cZ : ClassId) (a0 a0_net a0_painter a0_polynomial a0_listCounter a0_setFinder a0_takingApart a0_greedyRun a0_allowed a0_shown a0_shades a0_attempt a0_net_near a0_net_tail a0_net_head a0_polynomial_near a0_polynomial_nodes a0_polynomial_factors a0_polynomial_powers a0_polynomial_product : Nat) (r0_polynomial_near : Nat → Nat) (v0_net_nodes : Int32) (v0_net_arcCount : Int32) (v0_net_version : Int32) (w0_net_near : Nat → Int32) (v0_polynomial_versionSeen : Int32) (w0_polynomial_nodes : Nat → Int32) (w0_polynomial_factors : Nat → Int64) (w0_polynomial_powers : Nat → Int64) (w0_polynomial_product : Nat → Int64) (w0_polynomial_near : Nat → Nat → Int32) : va_W := [(a0, .inr (0, [.ref a0_net, .ref a0_painter, .ref a0_polynomial, .ref a0_listCounter, .ref a0_setFinder, .ref a0_takingApart, .ref a0_greedyRun, .ref a0_allowed, .ref a0_shown, .ref a0_shades, .ref a0_attempt])), (a0_net, .inr (1, [.ref a0_net_near, .ref a0_net_tail, .ref a0_net_head, .int v0_net_nodes, .int v0_net_arcCount, .int v0_net_version])), (a0_net_near, .inl (cI, 12, .inl w0_net_near)), (a0_polynomial, .inr (3, [.ref a0_polynomial_near, .ref a0_polynomial_nodes, .ref a0_polynomial_factors, .ref a0_polynomial_powers, .ref a0_polynomial_product, .int v0_polynomial_versionSeen])), (a0_polynomial_near, .inl (cG, 68, .inr (.inr (.inr (.inr (gO r0_polynomial_near 68)))))), (a0_polynomial_nodes, .inl (cI, 68, .inl w0_polynomial_nodes)), (a0_polynomial_factors, .inl (cJ, 68, .inr (.inl w0_polynomial_factors))), (a0_polynomial_powers, .inl (cJ, 13, .inr (.inl w0_polynomial_powers))), (a0_polynomial_product, .inl (cJ, 13, .inr (.inl w0_polynomial_product)))]
abbrev us_CS_coefficient : List Cond := .code y_CS_coefficient prog_1_method_9_code 2 (some .long) :: gtbl
abbrev rm_CS_coefficient : Room := { frames := 5, cells := 0, slots := 0, locals := 112 }
def m_CS_coefficient (F : Nat) (v0_net_nodes : Int32) (v0_net_arcCount : Int32) (v0_net_version : Int32) (w0_net_near : Nat → Int32) (v0_polynomial_versionSeen : Int32) (w0_polynomial_nodes : Nat → Int32) (w0_polynomial_factors : Nat → Int64) (w0_polynomial_powers : Nat → Int64) (w0_polynomial_product : Nat → Int64) (w0_polynomial_near : Nat → Nat → Int32) (p1 : Int32) : Option (Int64 × Int32 × (Nat → Int32) × (Nat → Int64) × (Nat → Int64) × (Nat → Int64) × (Nat → Nat → Int32)) :=
  gM (m_Pol_atPower F v0_polynomial_versionSeen w0_polynomial_nodes w0_polynomial_factors w0_polynomial_powers w0_polynomial_product v0_net_nodes v0_net_arcCount v0_net_version w0_net_near w0_polynomial_near p1) (fun (z_9 : Int64 × Int32 × (Nat → Int32) × (Nat → Int64) × (Nat → Int64) × (Nat → Int64) × (Nat → Nat → Int32)) => match z_9 with
  | (q_1, v0_polynomial_versionSeen_2, w0_polynomial_nodes_3, w0_polynomial_factors_4, w0_polynomial_powers_5, w0_polynomial_product_6, w0_polynomial_near_7) =>
  some (q_1, v0_polynomial_versionSeen_2, w0_polynomial_nodes_3, w0_polynomial_factors_4, w0_polynomial_powers_5, w0_polynomial_product_6, w0_polynomial_near_7))
set_option maxHeartbeats 4000000 in
set_option maxRecDepth 100000 in
theorem c_CS_coefficient (l : Launch) (dC : Nat → ClassId) (dI : Nat → Nat → Nat) (cI cJ cG cZ : ClassId) (a0 a0_net a0_painter a0_polynomial a0_listCounter a0_setFinder a0_takingApart a0_greedyRun a0_allowed a0_shown a0_shades a0_attempt a0_net_near a0_net_tail a0_net_head a0_polynomial_near a0_polynomial_nodes a0_polynomial_factors a0_polynomial_powers a0_polynomial_product : Nat) (r0_polynomial_near : Nat → Nat) (sz : Nat) (F : Nat) (v0_net_nodes : Int32) (v0_net_arcCount : Int32) (v0_net_version : Int32) (w0_net_near : Nat → Int32) (v0_polynomial_versionSeen : Int32) (w0_polynomial_nodes : Nat → Int32) (w0_polynomial_factors : Nat → Int64) (w0_polynomial_powers : Nat → Int64) (w0_polynomial_product : Nat → Int64) (w0_polynomial_near : Nat → Nat → Int32) (p1 : Int32) (ret : Int64) (o_v0_polynomial_versionSeen : Int32) (o_w0_polynomial_nodes : Nat → Int32) (o_w0_polynomial_factors : Nat → Int64) (o_w0_polynomial_powers : Nat → Int64) (o_w0_polynomial_product : Nat → Int64) (o_w0_polynomial_near : Nat → Nat → Int32) (hm : m_CS_coefficient F v0_net_nodes v0_net_arcCount v0_net_version w0_net_near v0_polynomial_versionSeen w0_polynomial_nodes w0_polynomial_factors w0_polynomial_powers w0_polynomial_product w0_polynomial_near p1 = some (ret, o_v0_polynomial_versionSeen, o_w0_polynomial_nodes, o_w0_polynomial_factors, o_w0_polynomial_powers, o_w0_polynomial_product, o_w0_polynomial_near)) : Met l y_CS_coefficient us_CS_coefficient rm_CS_coefficient (PcS (dC, dI) (tyL cI cJ cG cZ) [.ref a0, .int p1] sz (wd_CS_coefficient cI cJ cG cZ a0 a0_net a0_painter a0_polynomial a0_listCounter a0_setFinder a0_takingApart a0_greedyRun a0_allowed a0_shown a0_shades a0_attempt a0_net_near a0_net_tail a0_net_head a0_polynomial_near a0_polynomial_nodes a0_polynomial_factors a0_polynomial_powers a0_polynomial_product r0_polynomial_near v0_net_nodes v0_net_arcCount v0_net_version w0_net_near v0_polynomial_versionSeen w0_polynomial_nodes w0_polynomial_factors w0_polynomial_powers w0_polynomial_product w0_polynomial_near)) (va_Ql (fun (r : Int64) (_ : Unit) => ret = r) (fun _ t => PoS (dC, dI) (tyL cI cJ cG cZ) (wd_CS_coefficient cI cJ cG cZ a0 a0_net a0_painter a0_polynomial a0_listCounter a0_setFinder a0_takingApart a0_greedyRun a0_allowed a0_shown a0_shades a0_attempt a0_net_near a0_net_tail a0_net_head a0_polynomial_near a0_polynomial_nodes a0_polynomial_factors a0_polynomial_powers a0_polynomial_product r0_polynomial_near v0_net_nodes v0_net_arcCount v0_net_version w0_net_near o_v0_polynomial_versionSeen o_w0_polynomial_nodes o_w0_polynomial_factors o_w0_polynomial_powers o_w0_polynomial_product o_w0_polynomial_near) (va_A (wd_CS_coefficient cI cJ cG cZ a0 a0_net a0_painter a0_polynomial a0_listCounter a0_setFinder a0_takingApart a0_greedyRun a0_allowed a0_shown a0_shades a0_attempt a0_net_near a0_net_tail a0_net_head a0_polynomial_near a0_polynomial_nodes a0_polynomial_factors a0_polynomial_powers a0_polynomial_product r0_polynomial_near v0_net_nodes v0_net_arcCount v0_net_version w0_net_near v0_polynomial_versionSeen w0_polynomial_nodes w0_polynomial_factors w0_polynomial_powers w0_polynomial_product w0_polynomial_near) sz) t) (va_A (wd_CS_coefficient cI cJ cG cZ a0 a0_net a0_painter a0_polynomial a0_listCounter a0_setFinder a0_takingApart a0_greedyRun a0_allowed a0_shown a0_shades a0_attempt a0_net_near a0_net_tail a0_net_head a0_polynomial_near a0_polynomial_nodes a0_polynomial_factors a0_polynomial_powers a0_polynomial_product r0_polynomial_near v0_net_nodes v0_net_arcCount v0_net_version w0_net_near v0_polynomial_versionSeen w0_polynomial_nodes w0_polynomial_factors w0_polynomial_powers w0_polynomial_product w0_polynomial_near) sz)) 0 0 (va_A (wd_CS_coefficient cI cJ cG cZ a0 a0_net a0_painter a0_polynomial a0_listCounter a0_setFinder a0_takingApart a0_greedyRun a0_allowed a0_shown a0_shades a0_attempt a0_net_near a0_net_tail a0_net_head a0_polynomial_near a0_polynomial_nodes a0_polynomial_factors a0_polynomial_powers a0_polynomial_product r0_polynomial_near v0_net_nodes v0_net_arcCount v0_net_version w0_net_near v0_polynomial_versionSeen w0_polynomial_nodes w0_polynomial_factors w0_polynomial_powers w0_polynomial_product w0_polynomial_near) sz) := by
  refine Met.ofW (cc := prog_1_method_9_code) (maxL := 2) (ret := (some .long)) (by decide) rfl ?_
  intro p e s m args below meth c s₁ B hml hv
  obtain ⟨rfl, hsz, hP, hK, hD0, hNw⟩ := hv
  have hx := B.exec
  have hb := B.bytes
  have hr := B.returns
  have htt : ∀ w ∈ gtbl, w.before _ s = true := fun w h => atoms_spec (ws := us_CS_coefficient) B.pre w (List.mem_cons_of_mem _ h)
  have hown : s.vm.findClass R_CS = some m.cls := findClass_of_methodNamed B.named
  have hlocks := B.notSynchronized
  subst hsz
  have hD := hD0.self (sz := s.heap.size)
  generalize hAe : va_A (wd_CS_coefficient cI cJ cG cZ a0 a0_net a0_painter a0_polynomial a0_listCounter a0_setFinder a0_takingApart a0_greedyRun a0_allowed a0_shown a0_shades a0_attempt a0_net_near a0_net_tail a0_net_head a0_polynomial_near a0_polynomial_nodes a0_polynomial_factors a0_polynomial_powers a0_polynomial_product r0_polynomial_near v0_net_nodes v0_net_arcCount v0_net_version w0_net_near v0_polynomial_versionSeen w0_polynomial_nodes w0_polynomial_factors w0_polynomial_powers w0_polynomial_product w0_polynomial_near) s.heap.size = A at hD ⊢
  have hA : ∀ q : Nat, s.heap.size ≤ q → A q := fun q h => by rw [← hAe]; exact Or.inr h
  clear hAe hD0
  have hS : va_S A s.heap s.heap [] := va_S.rf
  have hl := lv_entry ([.ref a0, .int p1]) (n := 2) (Nat.le_of_ble_eq_true rfl)
  rw [lg_entry_eq]
  generalize (lg_sl ([.ref a0, .int p1]) ++ List.replicate (2 - (lg_sl ([.ref a0, .int p1])).length) Slot.unset).toArray = ls at hl ⊢
  have hl : lv_has ls 2 [(0, .ref a0), (1, .int p1)] := hl
  generalize hH : s.heap = H at hP ⊢
  have hS : va_S A s.heap H [] := hH ▸ hS
  generalize hLo : ([] : List Loc) = locs at hS ⊢
  clear hH hLo
  unfold m_CS_coefficient at hm
  refine lv_aload_n hx hb d_CS_coefficient_0 rfl (lv_at hl 0 rfl) ?_
  refine va_get (D := (dC, dI)) (ci := 0) (v := .ref a0_polynomial) (C := R_CS) (T := T_CS) (N := 11) hx hb htt hin_CS hown hK hP 0 rfl rfl 2 (by decide) (htt _ kt_226) (fun _ h9 => h9) rfl d_CS_coefficient_1 ?_
  refine lv_aload_n hx hb d_CS_coefficient_4 rfl (lv_at hl 0 rfl) ?_
  refine va_get (D := (dC, dI)) (ci := 0) (v := .ref a0_net) (C := R_CS) (T := T_CS) (N := 11) hx hb htt hin_CS hown hK hP 0 rfl rfl 0 (by decide) (htt _ kt_224) (fun _ h9 => h9) rfl d_CS_coefficient_5 ?_
  refine lv_iload_n hx hb d_CS_coefficient_8 rfl (lv_at hl 1 rfl) ?_
  obtain ⟨⟨q_1, v0_polynomial_versionSeen_2, w0_polynomial_nodes_3, w0_polynomial_factors_4, w0_polynomial_powers_5, w0_polynomial_product_6, w0_polynomial_near_7⟩, hc_8, hm⟩ := gM_e hm
  dsimp only at hm
  have hPc : va_P (dC, dI) vwCl (wd_Pol_atPower cI cJ cG cZ a0_polynomial a0_net a0_polynomial_near a0_polynomial_nodes a0_polynomial_factors a0_polynomial_powers a0_polynomial_product a0_net_near a0_net_tail a0_net_head r0_polynomial_near v0_polynomial_versionSeen w0_polynomial_nodes w0_polynomial_factors w0_polynomial_powers w0_polynomial_product v0_net_nodes v0_net_arcCount v0_net_version w0_net_near w0_polynomial_near) H := hP.part [3, 4, 5, 6, 7, 8, 1, 2] rfl
  have hDc : va_D A (wd_Pol_atPower cI cJ cG cZ a0_polynomial a0_net a0_polynomial_near a0_polynomial_nodes a0_polynomial_factors a0_polynomial_powers a0_polynomial_product a0_net_near a0_net_tail a0_net_head r0_polynomial_near v0_polynomial_versionSeen w0_polynomial_nodes w0_polynomial_factors w0_polynomial_powers w0_polynomial_product v0_net_nodes v0_net_arcCount v0_net_version w0_net_near w0_polynomial_near) := hD.part [3, 4, 5, 6, 7, 8, 1, 2] (by decide) rfl
  have hFc : ∀ q, va_A (wd_Pol_atPower cI cJ cG cZ a0_polynomial a0_net a0_polynomial_near a0_polynomial_nodes a0_polynomial_factors a0_polynomial_powers a0_polynomial_product a0_net_near a0_net_tail a0_net_head r0_polynomial_near v0_polynomial_versionSeen w0_polynomial_nodes w0_polynomial_factors w0_polynomial_powers w0_polynomial_product v0_net_nodes v0_net_arcCount v0_net_version w0_net_near w0_polynomial_near) H.size q → A q := va_freeP hD hS hA [3, 4, 5, 6, 7, 8, 1, 2] rfl
  refine va_calll (va_runV (As := [.ref a0_net, .int p1]) (rest := []) ⟨hx, hb, hml, hown, htt⟩ (c_Pol_atPower l dC dI cI cJ cG cZ a0_polynomial a0_net a0_polynomial_near a0_polynomial_nodes a0_polynomial_factors a0_polynomial_powers a0_polynomial_product a0_net_near a0_net_tail a0_net_head r0_polynomial_near H.size F v0_polynomial_versionSeen w0_polynomial_nodes w0_polynomial_factors w0_polynomial_powers w0_polynomial_product v0_net_nodes v0_net_arcCount v0_net_version w0_net_near w0_polynomial_near p1 q_1 v0_polynomial_versionSeen_2 w0_polynomial_nodes_3 w0_polynomial_factors_4 w0_polynomial_powers_5 w0_polynomial_product_6 w0_polynomial_near_7 hc_8) (cwV 2 htt (gdV kt_433 kt_434 kt_435 kt_4 kt_436) rfl rfl rfl (by decide +kernel) ⟨(Nat.le_of_ble_eq_true rfl), (Nat.le_of_ble_eq_true rfl)⟩) ⟨PcS_blind, va_recv hK hPc (ci := 3) (q0 := 0) rfl rfl, PcS_in hPc hK hDc hNw⟩ rfl rfl hl.1 rfl (lv_room (Nat.le_of_ble_eq_true rfl)) d_CS_coefficient_9 ⟨Nat.zero_le _, Nat.zero_le _⟩) hS (fun q _ h => hFc q h) hFc (fun r_10 u t H1 locs ht hvm hw hB hz1 hk1 hS => ?_)
  obtain ⟨hP1, hK1, hD1⟩ := hB
  rw [ht] at hP1
  subst hw
  obtain ⟨hP, hD⟩ := va_joinP (wr := [(a0, .inr (0, [.ref a0_net, .ref a0_painter, .ref a0_polynomial, .ref a0_listCounter, .ref a0_setFinder, .ref a0_takingApart, .ref a0_greedyRun, .ref a0_allowed, .ref a0_shown, .ref a0_shades, .ref a0_attempt]))]) (rx := (we_Pol_atPower cI cJ cG cZ a0_polynomial a0_net a0_polynomial_near a0_polynomial_nodes a0_polynomial_factors a0_polynomial_powers a0_polynomial_product a0_net_near a0_net_tail a0_net_head r0_polynomial_near v0_polynomial_versionSeen_2 w0_polynomial_nodes_3 w0_polynomial_factors_4 w0_polynomial_powers_5 w0_polynomial_product_6 v0_net_nodes v0_net_arcCount v0_net_version w0_net_near w0_polynomial_near_7)) hP hD [3, 4, 5, 6, 7, 8, 1, 2] [0] rfl rfl (by decide) (by decide) hk1 hFc hP1 hD1
  have hP : va_P (dC, dI) vwCl (wd_CS_coefficient cI cJ cG cZ a0 a0_net a0_painter a0_polynomial a0_listCounter a0_setFinder a0_takingApart a0_greedyRun a0_allowed a0_shown a0_shades a0_attempt a0_net_near a0_net_tail a0_net_head a0_polynomial_near a0_polynomial_nodes a0_polynomial_factors a0_polynomial_powers a0_polynomial_product r0_polynomial_near v0_net_nodes v0_net_arcCount v0_net_version w0_net_near v0_polynomial_versionSeen_2 w0_polynomial_nodes_3 w0_polynomial_factors_4 w0_polynomial_powers_5 w0_polynomial_product_6 w0_polynomial_near_7) H1 := hP.part [0, 7, 8, 1, 2, 3, 4, 5, 6] rfl
  have hD : va_D A (wd_CS_coefficient cI cJ cG cZ a0 a0_net a0_painter a0_polynomial a0_listCounter a0_setFinder a0_takingApart a0_greedyRun a0_allowed a0_shown a0_shades a0_attempt a0_net_near a0_net_tail a0_net_head a0_polynomial_near a0_polynomial_nodes a0_polynomial_factors a0_polynomial_powers a0_polynomial_product r0_polynomial_near v0_net_nodes v0_net_arcCount v0_net_version w0_net_near v0_polynomial_versionSeen_2 w0_polynomial_nodes_3 w0_polynomial_factors_4 w0_polynomial_powers_5 w0_polynomial_product_6 w0_polynomial_near_7) := hD.part [0, 7, 8, 1, 2, 3, 4, 5, 6] (by decide) rfl
  clear hP1 hK1 hD1 hk1 hPc hDc hFc ht hvm hz1
  generalize H1 = H at hP hS ⊢
  cases hm
  exact W.lret hx hb hr (fun t ht hW => ⟨⟨_, (), rfl, rfl, by rw [ht]; exact hP, va_K.moved hW.alike hK, hD⟩, hS.F ht⟩) hS.2.2 d_CS_coefficient_12
theorem d_CS_list_0 : decode prog_1_method_10_code 0 = .ok (.aload_n 0, 1) := by decide +kernel
theorem d_CS_list_1 : decode prog_1_method_10_code 1 = .ok (.getfield 12, 3) := by decide +kernel
theorem d_CS_list_4 : decode prog_1_method_10_code 4 = .ok (.iload_n 1, 1) := by decide +kernel
theorem d_CS_list_5 : decode prog_1_method_10_code 5 = .ok (.invokevirtual 118, 3) := by decide +kernel
theorem d_CS_list_8 : decode prog_1_method_10_code 8 = .ok (.ifCond .eq 11, 3) := by decide +kernel
theorem d_CS_list_11 : decode prog_1_method_10_code 11 = .ok (.iload_n 2, 1) := by decide +kernel
theorem d_CS_list_12 : decode prog_1_method_10_code 12 = .ok (.sipush (-4096), 3) := by decide +kernel
theorem d_CS_list_15 : decode prog_1_method_10_code 15 = .ok (.iand, 1) := by decide +kernel
theorem d_CS_list_16 : decode prog_1_method_10_code 16 = .ok (.ifCond .eq 5, 3) := by decide +kernel
theorem d_CS_list_19 : decode prog_1_method_10_code 19 = .ok (.iconst 0, 1) := by decide +kernel
theorem d_CS_list_20 : decode prog_1_method_10_code 20 = .ok (.ireturn, 1) := by decide +kernel
theorem d_CS_list_21 : decode prog_1_method_10_code 21 = .ok (.aload_n 0, 1) := by decide +kernel
theorem d_CS_list_22 : decode prog_1_method_10_code 22 = .ok (.getfield 58, 3) := by decide +kernel
theorem d_CS_list_25 : decode prog_1_method_10_code 25 = .ok (.iload_n 1, 1) := by decide +kernel
theorem d_CS_list_26 : decode prog_1_method_10_code 26 = .ok (.iload_n 2, 1) := by decide +kernel
theorem d_CS_list_27 : decode prog_1_method_10_code 27 = .ok (.iastore, 1) := by decide +kernel
theorem d_CS_list_28 : decode prog_1_method_10_code 28 = .ok (.iconst 1, 1) := by decide +kernel
theorem d_CS_list_29 : decode prog_1_method_10_code 29 = .ok (.ireturn, 1) := by decide +kernel
abbrev wd_CS_list (cI cJ cG cZ : ClassId) (a0 a0_net a0_painter a0_polynomial a0_listCounter a0_setFinder a0_takingApart a0_greedyRun a0_allowed a0_shown a0_shades a0_attempt a0_net_near a0_net_tail a0_net_head : Nat) (v0_net_nodes : Int32) (v0_net_arcCount : Int32) (v0_net_version : Int32) (w0_allowed : Nat → Int32) : va_W := [(a0, .inr (0, [.ref a0_net, .ref a0_painter, .ref a0_polynomial, .ref a0_listCounter, .ref a0_setFinder, .ref a0_takingApart, .ref a0_greedyRun, .ref a0_allowed, .ref a0_shown, .ref a0_shades, .ref a0_attempt])), (a0_net, .inr (1, [.ref a0_net_near, .ref a0_net_tail, .ref a0_net_head, .int v0_net_nodes, .int v0_net_arcCount, .int v0_net_version])), (a0_allowed, .inl (cI, 12, .inl w0_allowed))]
abbrev us_CS_list : List Cond := .code y_CS_list prog_1_method_10_code 3 (some .boolean) :: gtbl
abbrev rm_CS_list : Room := { frames := 1, cells := 0, slots := 0, locals := 21 }
def m_CS_list (F : Nat) (v0_net_nodes : Int32) (v0_net_arcCount : Int32) (v0_net_version : Int32) (w0_allowed : Nat → Int32) (p1 : Int32) (p2 : Int32) : Option (Int32 × (Nat → Int32)) :=
  gM (m_Net_isNode F v0_net_nodes v0_net_arcCount v0_net_version p1) (fun q_1 =>
  if q_1 = 0 then (
    some (0, w0_allowed)
  ) else (
    if (p2 &&& (-4096)) = 0 then (
      gC (inb p1 12) (
      some (1, upd w0_allowed p1.toNatClampNeg p2))
    ) else (
      some (0, w0_allowed)
    )
  ))
set_option maxHeartbeats 4000000 in
set_option maxRecDepth 100000 in
theorem c_CS_list (l : Launch) (dC : Nat → ClassId) (dI : Nat → Nat → Nat) (cI cJ cG cZ : ClassId) (a0 a0_net a0_painter a0_polynomial a0_listCounter a0_setFinder a0_takingApart a0_greedyRun a0_allowed a0_shown a0_shades a0_attempt a0_net_near a0_net_tail a0_net_head : Nat) (sz : Nat) (F : Nat) (v0_net_nodes : Int32) (v0_net_arcCount : Int32) (v0_net_version : Int32) (w0_allowed : Nat → Int32) (p1 : Int32) (p2 : Int32) (ret : Int32) (o_w0_allowed : Nat → Int32) (hm : m_CS_list F v0_net_nodes v0_net_arcCount v0_net_version w0_allowed p1 p2 = some (ret, o_w0_allowed)) : Met l y_CS_list us_CS_list rm_CS_list (PcS (dC, dI) (tyL cI cJ cG cZ) [.ref a0, .int p1, .int p2] sz (wd_CS_list cI cJ cG cZ a0 a0_net a0_painter a0_polynomial a0_listCounter a0_setFinder a0_takingApart a0_greedyRun a0_allowed a0_shown a0_shades a0_attempt a0_net_near a0_net_tail a0_net_head v0_net_nodes v0_net_arcCount v0_net_version w0_allowed)) (va_Qi (fun (r : Int32) (_ : Unit) => ret = r ∧ bz r) (fun _ t => PoS (dC, dI) (tyL cI cJ cG cZ) (wd_CS_list cI cJ cG cZ a0 a0_net a0_painter a0_polynomial a0_listCounter a0_setFinder a0_takingApart a0_greedyRun a0_allowed a0_shown a0_shades a0_attempt a0_net_near a0_net_tail a0_net_head v0_net_nodes v0_net_arcCount v0_net_version o_w0_allowed) (va_A (wd_CS_list cI cJ cG cZ a0 a0_net a0_painter a0_polynomial a0_listCounter a0_setFinder a0_takingApart a0_greedyRun a0_allowed a0_shown a0_shades a0_attempt a0_net_near a0_net_tail a0_net_head v0_net_nodes v0_net_arcCount v0_net_version w0_allowed) sz) t) (va_A (wd_CS_list cI cJ cG cZ a0 a0_net a0_painter a0_polynomial a0_listCounter a0_setFinder a0_takingApart a0_greedyRun a0_allowed a0_shown a0_shades a0_attempt a0_net_near a0_net_tail a0_net_head v0_net_nodes v0_net_arcCount v0_net_version w0_allowed) sz)) 0 0 (va_A (wd_CS_list cI cJ cG cZ a0 a0_net a0_painter a0_polynomial a0_listCounter a0_setFinder a0_takingApart a0_greedyRun a0_allowed a0_shown a0_shades a0_attempt a0_net_near a0_net_tail a0_net_head v0_net_nodes v0_net_arcCount v0_net_version w0_allowed) sz) := by
  refine Met.ofW (cc := prog_1_method_10_code) (maxL := 3) (ret := (some .boolean)) (by decide) rfl ?_
  intro p e s m args below meth c s₁ B hml hv
  obtain ⟨rfl, hsz, hP, hK, hD0, hNw⟩ := hv
  have hx := B.exec
  have hb := B.bytes
  have hr := B.returns
  have htt : ∀ w ∈ gtbl, w.before _ s = true := fun w h => atoms_spec (ws := us_CS_list) B.pre w (List.mem_cons_of_mem _ h)
  have hown : s.vm.findClass R_CS = some m.cls := findClass_of_methodNamed B.named
  have hlocks := B.notSynchronized
  subst hsz
  have hD := hD0.self (sz := s.heap.size)
  generalize hAe : va_A (wd_CS_list cI cJ cG cZ a0 a0_net a0_painter a0_polynomial a0_listCounter a0_setFinder a0_takingApart a0_greedyRun a0_allowed a0_shown a0_shades a0_attempt a0_net_near a0_net_tail a0_net_head v0_net_nodes v0_net_arcCount v0_net_version w0_allowed) s.heap.size = A at hD ⊢
  have hA : ∀ q : Nat, s.heap.size ≤ q → A q := fun q h => by rw [← hAe]; exact Or.inr h
  clear hAe hD0
  have hS : va_S A s.heap s.heap [] := va_S.rf
  have hl := lv_entry ([.ref a0, .int p1, .int p2]) (n := 3) (Nat.le_of_ble_eq_true rfl)
  rw [lg_entry_eq]
  generalize (lg_sl ([.ref a0, .int p1, .int p2]) ++ List.replicate (3 - (lg_sl ([.ref a0, .int p1, .int p2])).length) Slot.unset).toArray = ls at hl ⊢
  have hl : lv_has ls 3 [(0, .ref a0), (1, .int p1), (2, .int p2)] := hl
  generalize hH : s.heap = H at hP ⊢
  have hS : va_S A s.heap H [] := hH ▸ hS
  generalize hLo : ([] : List Loc) = locs at hS ⊢
  clear hH hLo
  unfold m_CS_list at hm
  refine lv_aload_n hx hb d_CS_list_0 rfl (lv_at hl 0 rfl) ?_
  refine va_get (D := (dC, dI)) (ci := 0) (v := .ref a0_net) (C := R_CS) (T := T_CS) (N := 11) hx hb htt hin_CS hown hK hP 0 rfl rfl 0 (by decide) (htt _ kt_224) (fun _ h9 => h9) rfl d_CS_list_1 ?_
  refine lv_iload_n hx hb d_CS_list_4 rfl (lv_at hl 1 rfl) ?_
  obtain ⟨q_1, hc_2, hm⟩ := gM_e hm
  have hPc : va_P (dC, dI) vwCl (wd_Net_isNode cI cJ cG cZ a0_net a0_net_near a0_net_tail a0_net_head v0_net_nodes v0_net_arcCount v0_net_version) H := hP.sub [1] rfl
  have hDc : va_D A (wd_Net_isNode cI cJ cG cZ a0_net a0_net_near a0_net_tail a0_net_head v0_net_nodes v0_net_arcCount v0_net_version) := hD.sub [1] (by decide) rfl
  have hFc : ∀ q, va_A (wd_Net_isNode cI cJ cG cZ a0_net a0_net_near a0_net_tail a0_net_head v0_net_nodes v0_net_arcCount v0_net_version) H.size q → A q := va_free hD hS hA [1] rfl
  refine va_calli (va_runV (As := [.int p1]) (rest := []) ⟨hx, hb, hml, hown, htt⟩ (c_Net_isNode l dC dI cI cJ cG cZ a0_net a0_net_near a0_net_tail a0_net_head H.size F v0_net_nodes v0_net_arcCount v0_net_version p1 q_1 hc_2) (cwV 1 htt (gdV kt_382 kt_275 kt_276 kt_2 kt_277) rfl rfl rfl (by decide +kernel) ⟨(Nat.le_of_ble_eq_true rfl), (Nat.le_of_ble_eq_true rfl)⟩) ⟨PcS_blind, va_recv hK hPc (ci := 1) (q0 := 0) rfl rfl, PcS_in hPc hK hDc hNw⟩ rfl rfl hl.1 rfl (lv_room (Nat.le_of_ble_eq_true rfl)) d_CS_list_5 ⟨Nat.zero_le _, Nat.zero_le _⟩) hS (fun q _ h => hFc q h) hFc (fun r_3 u t H1 locs ht hvm hw hB hz1 hk1 hS => ?_)
  obtain ⟨hP1, hK1, hD1⟩ := hB
  rw [ht] at hP1
  obtain ⟨hw, hz_4⟩ := hw
  subst hw
  obtain ⟨hP, hD⟩ := va_join (wr := [(a0, .inr (0, [.ref a0_net, .ref a0_painter, .ref a0_polynomial, .ref a0_listCounter, .ref a0_setFinder, .ref a0_takingApart, .ref a0_greedyRun, .ref a0_allowed, .ref a0_shown, .ref a0_shades, .ref a0_attempt])), (a0_allowed, .inl (cI, 12, .inl w0_allowed))]) (w1 := (wd_Net_isNode cI cJ cG cZ a0_net a0_net_near a0_net_tail a0_net_head v0_net_nodes v0_net_arcCount v0_net_version)) hP hD [1] [0, 2] rfl rfl (by decide) (by decide) hk1 hFc hP1 hD1
  have hP : va_P (dC, dI) vwCl (wd_CS_list cI cJ cG cZ a0 a0_net a0_painter a0_polynomial a0_listCounter a0_setFinder a0_takingApart a0_greedyRun a0_allowed a0_shown a0_shades a0_attempt a0_net_near a0_net_tail a0_net_head v0_net_nodes v0_net_arcCount v0_net_version w0_allowed) H1 := hP.sub [0, 2, 1] rfl
  have hD : va_D A (wd_CS_list cI cJ cG cZ a0 a0_net a0_painter a0_polynomial a0_listCounter a0_setFinder a0_takingApart a0_greedyRun a0_allowed a0_shown a0_shades a0_attempt a0_net_near a0_net_tail a0_net_head v0_net_nodes v0_net_arcCount v0_net_version w0_allowed) := hD.sub [0, 2, 1] (by decide) rfl
  clear hP1 hK1 hD1 hk1 hPc hDc hFc ht hvm hz1
  generalize H1 = H at hP hS ⊢
  refine lv_if_eq (tgt := 19) hx hb d_CS_list_8 (by decide) (fun c_5 => ?_) (fun c_5 => ?_)
  · have hm := ite_t c_5 hm
    refine lv_iconst (v := 0) hx hb d_CS_list_19 (by decide) ?_
    cases hm
    exact W.zret (ty := .boolean) hx hb hr (bz_nar (by decide : bz 0)) (fun t ht hW => ⟨⟨_, (), rfl, ⟨rfl, (by decide : bz 0)⟩, by rw [ht]; exact hP, va_K.moved hW.alike hK, hD⟩, hS.F ht⟩) hS.2.2 d_CS_list_20
  · have hm := ite_f c_5 hm
    refine lv_iload_n hx hb d_CS_list_11 rfl (lv_at hl 2 rfl) ?_
    refine lv_sipush (v := (-4096)) hx hb d_CS_list_12 (by decide) ?_
    refine lv_iand hx hb d_CS_list_15 ?_
    refine lv_if_eq (tgt := 21) hx hb d_CS_list_16 (by decide) (fun c_6 => ?_) (fun c_6 => ?_)
    · have hm := ite_t c_6 hm
      refine lv_aload_n hx hb d_CS_list_21 rfl (lv_at hl 0 rfl) ?_
      refine va_get (D := (dC, dI)) (ci := 0) (v := .ref a0_allowed) (C := R_CS) (T := T_CS) (N := 11) hx hb htt hin_CS hown hK hP 0 rfl rfl 7 (by decide) (htt _ kt_231) (fun _ h9 => h9) rfl d_CS_list_22 ?_
      refine lv_iload_n hx hb d_CS_list_25 rfl (lv_at hl 1 rfl) ?_
      refine lv_iload_n hx hb d_CS_list_26 rfl (lv_at hl 2 rfl) ?_
      obtain ⟨hi_7, hm⟩ := gC_e hm
      refine va_iast hx hb hK hP hD hS 2 0 rfl rfl (inb_vp hi_7) d_CS_list_27 (fun H locs hP hD hS => ?_)
      have hP : va_P (dC, dI) vwCl (wd_CS_list cI cJ cG cZ a0 a0_net a0_painter a0_polynomial a0_listCounter a0_setFinder a0_takingApart a0_greedyRun a0_allowed a0_shown a0_shades a0_attempt a0_net_near a0_net_tail a0_net_head v0_net_nodes v0_net_arcCount v0_net_version (upd w0_allowed p1.toNatClampNeg p2)) H := hP
      have hD : va_D A (wd_CS_list cI cJ cG cZ a0 a0_net a0_painter a0_polynomial a0_listCounter a0_setFinder a0_takingApart a0_greedyRun a0_allowed a0_shown a0_shades a0_attempt a0_net_near a0_net_tail a0_net_head v0_net_nodes v0_net_arcCount v0_net_version (upd w0_allowed p1.toNatClampNeg p2)) := hD
      refine lv_iconst (v := 1) hx hb d_CS_list_28 (by decide) ?_
      cases hm
      exact W.zret (ty := .boolean) hx hb hr (bz_nar (by decide : bz 1)) (fun t ht hW => ⟨⟨_, (), rfl, ⟨rfl, (by decide : bz 1)⟩, by rw [ht]; exact hP, va_K.moved hW.alike hK, hD⟩, hS.F ht⟩) hS.2.2 d_CS_list_29
    · have hm := ite_f c_6 hm
      refine lv_iconst (v := 0) hx hb d_CS_list_19 (by decide) ?_
      cases hm
      exact W.zret (ty := .boolean) hx hb hr (bz_nar (by decide : bz 0)) (fun t ht hW => ⟨⟨_, (), rfl, ⟨rfl, (by decide : bz 0)⟩, by rw [ht]; exact hP, va_K.moved hW.alike hK, hD⟩, hS.F ht⟩) hS.2.2 d_CS_list_20
theorem d_CS_lists_0 : decode prog_1_method_11_code 0 = .ok (.aload_n 0, 1) := by decide +kernel
theorem d_CS_lists_1 : decode prog_1_method_11_code 1 = .ok (.getfield 19, 3) := by decide +kernel
theorem d_CS_lists_4 : decode prog_1_method_11_code 4 = .ok (.aload_n 0, 1) := by decide +kernel
theorem d_CS_lists_5 : decode prog_1_method_11_code 5 = .ok (.getfield 12, 3) := by decide +kernel
theorem d_CS_lists_8 : decode prog_1_method_11_code 8 = .ok (.aload_n 0, 1) := by decide +kernel
theorem d_CS_lists_9 : decode prog_1_method_11_code 9 = .ok (.getfield 58, 3) := by decide +kernel
theorem d_CS_lists_12 : decode prog_1_method_11_code 12 = .ok (.invokevirtual 130, 3) := by decide +kernel
theorem d_CS_lists_15 : decode prog_1_method_11_code 15 = .ok (.aload_n 0, 1) := by decide +kernel
theorem d_CS_lists_16 : decode prog_1_method_11_code 16 = .ok (.aload_n 0, 1) := by decide +kernel
theorem d_CS_lists_17 : decode prog_1_method_11_code 17 = .ok (.getfield 19, 3) := by decide +kernel
theorem d_CS_lists_20 : decode prog_1_method_11_code 20 = .ok (.invokevirtual 104, 3) := by decide +kernel
theorem d_CS_lists_23 : decode prog_1_method_11_code 23 = .ok (.invokevirtual 114, 3) := by decide +kernel
theorem d_CS_lists_26 : decode prog_1_method_11_code 26 = .ok (.ireturn, 1) := by decide +kernel
abbrev wd_CS_lists (cI cJ cG cZ : ClassId) (a0 a0_net a0_painter a0_polynomial a0_listCounter a0_setFinder a0_takingApart a0_greedyRun a0_allowed a0_shown a0_shades a0_attempt a0_net_near a0_net_tail a0_net_head a0_painter_paint a0_painter_near a0_painter_free a0_painter_uses : Nat) (r0_painter_free : Nat → Nat) (v0_net_nodes : Int32) (v0_net_arcCount : Int32) (v0_net_version : Int32) (w0_net_near : Nat → Int32) (v0_painter_items : Int32) (v0_painter_evenly : Int32) (v0_painter_palette : Int32) (v0_painter_share : Int32) (v0_painter_bigger : Int32) (v0_painter_bigNow : Int32) (w0_painter_paint : Nat → Int32) (w0_painter_near : Nat → Int32) (w0_painter_uses : Nat → Int32) (w0_allowed : Nat → Int32) (w0_shown : Nat → Int32) (w0_painter_free : Nat → Nat → Int32) : va_W := [(a0, .inr (0, [.ref a0_net, .ref a0_painter, .ref a0_polynomial, .ref a0_listCounter, .ref a0_setFinder, .ref a0_takingApart, .ref a0_greedyRun, .ref a0_allowed, .ref a0_shown, .ref a0_shades, .ref a0_attempt])), (a0_net, .inr (1, [.ref a0_net_near, .ref a0_net_tail, .ref a0_net_head, .int v0_net_nodes, .int v0_net_arcCount, .int v0_net_version])), (a0_net_near, .inl (cI, 12, .inl w0_net_near)), (a0_painter, .inr (2, [.ref a0_painter_paint, .ref a0_painter_near, .ref a0_painter_free, .ref a0_painter_uses, .int v0_painter_items, .int v0_painter_evenly, .int v0_painter_palette, .int v0_painter_share, .int v0_painter_bigger, .int v0_painter_bigNow])), (a0_painter_paint, .inl (cI, 16, .inl w0_painter_paint)), (a0_painter_near, .inl (cI, 16, .inl w0_painter_near)), (a0_painter_free, .inl (cG, 18, .inr (.inr (.inr (.inr (gO r0_painter_free 18)))))), (a0_painter_uses, .inl (cI, 12, .inl w0_painter_uses)), (a0_allowed, .inl (cI, 12, .inl w0_allowed)), (a0_shown, .inl (cI, 12, .inl w0_shown))] ++ rowsW r0_painter_free cI 16 18 w0_painter_free
abbrev we_CS_lists (cI cJ cG cZ : ClassId) (a0 a0_net a0_painter a0_polynomial a0_listCounter a0_setFinder a0_takingApart a0_greedyRun a0_allowed a0_shown a0_shades a0_attempt a0_net_near a0_net_tail a0_net_head a0_painter_paint a0_painter_near a0_painter_free a0_painter_uses : Nat) (r0_painter_free : Nat → Nat) (v0_net_nodes : Int32) (v0_net_arcCount : Int32) (v0_net_version : Int32) (w0_net_near : Nat → Int32) (v0_painter_items : Int32) (v0_painter_evenly : Int32) (v0_painter_palette : Int32) (v0_painter_share : Int32) (v0_painter_bigger : Int32) (v0_painter_bigNow : Int32) (w0_painter_paint : Nat → Int32) (w0_painter_near : Nat → Int32) (w0_painter_uses : Nat → Int32) (w0_allowed : Nat → Int32) (w0_shown : Nat → Int32) (w0_painter_free : Nat → Nat → Int32) : va_W := [(a0, .inr (0, [.ref a0_net, .ref a0_painter, .ref a0_polynomial, .ref a0_listCounter, .ref a0_setFinder, .ref a0_takingApart, .ref a0_greedyRun, .ref a0_allowed, .ref a0_shown, .ref a0_shades, .ref a0_attempt])), (a0_net, .inr (1, [.ref a0_net_near, .ref a0_net_tail, .ref a0_net_head, .int v0_net_nodes, .int v0_net_arcCount, .int v0_net_version])), (a0_net_near, .inl (cI, 12, .inl w0_net_near)), (a0_painter, .inr (2, [.ref a0_painter_paint, .ref a0_painter_near, .ref a0_painter_free, .ref a0_painter_uses, .int v0_painter_items, .int v0_painter_evenly, .int v0_painter_palette, .int v0_painter_share, .int v0_painter_bigger, .int v0_painter_bigNow])), (a0_painter_paint, .inl (cI, 16, .inl w0_painter_paint)), (a0_painter_near, .inl (cI, 16, .inl w0_painter_near)), (a0_painter_free, .inl (cG, 18, .inr (.inr (.inr (.inr (gO r0_painter_free 18)))))), (a0_painter_uses, .inl (cI, 12, .inl w0_painter_uses)), (a0_allowed, .inl (cI, 12, .inl w0_allowed)), (a0_shown, .inl (cI, 12, .inl w0_shown))]
abbrev us_CS_lists : List Cond := .code y_CS_lists prog_1_method_11_code 1 (some .int) :: gtbl
abbrev rm_CS_lists : Room := { frames := 23, cells := 0, slots := 0, locals := 647 }
def m_CS_lists (F : Nat) (v0_net_nodes : Int32) (v0_net_arcCount : Int32) (v0_net_version : Int32) (w0_net_near : Nat → Int32) (v0_painter_items : Int32) (v0_painter_evenly : Int32) (v0_painter_palette : Int32) (v0_painter_share : Int32) (v0_painter_bigger : Int32) (v0_painter_bigNow : Int32) (w0_painter_paint : Nat → Int32) (w0_painter_near : Nat → Int32) (w0_painter_uses : Nat → Int32) (w0_allowed : Nat → Int32) (w0_shown : Nat → Int32) (w0_painter_free : Nat → Nat → Int32) : Option (Int32 × Int32 × Int32 × Int32 × Int32 × Int32 × Int32 × (Nat → Int32) × (Nat → Int32) × (Nat → Int32) × (Nat → Int32) × (Nat → Nat → Int32)) :=
  gM (m_Pai_startLists F v0_painter_items v0_painter_evenly v0_painter_palette v0_painter_share v0_painter_bigger v0_painter_bigNow w0_painter_near w0_painter_uses v0_net_nodes v0_net_arcCount v0_net_version w0_net_near w0_allowed w0_painter_free) (fun (z_11 : Int32 × Int32 × Int32 × Int32 × Int32 × Int32 × (Nat → Int32) × (Nat → Int32) × (Nat → Nat → Int32)) => match z_11 with
  | (v0_painter_items_1, v0_painter_evenly_2, v0_painter_palette_3, v0_painter_share_4, v0_painter_bigger_5, v0_painter_bigNow_6, w0_painter_near_7, w0_painter_uses_8, w0_painter_free_9) =>
  gM (m_Pai_paintFirst F v0_painter_items_1 v0_painter_evenly_2 v0_painter_palette_3 v0_painter_share_4 v0_painter_bigger_5 v0_painter_bigNow_6 w0_painter_paint w0_painter_near_7 w0_painter_uses_8 w0_painter_free_9) (fun (z_18 : Int32 × Int32 × (Nat → Int32) × (Nat → Int32) × (Nat → Nat → Int32)) => match z_18 with
  | (q_12, v0_painter_bigNow_13, w0_painter_paint_14, w0_painter_uses_15, w0_painter_free_16) =>
  gM (m_CS_showWhether F v0_net_nodes v0_net_arcCount v0_net_version v0_painter_items_1 v0_painter_evenly_2 v0_painter_palette_3 v0_painter_share_4 v0_painter_bigger_5 v0_painter_bigNow_13 w0_painter_paint_14 w0_shown q_12) (fun (z_24 : Int32 × (Nat → Int32)) => match z_24 with
  | (q_21, w0_shown_22) =>
  some (q_21, v0_painter_items_1, v0_painter_evenly_2, v0_painter_palette_3, v0_painter_share_4, v0_painter_bigger_5, v0_painter_bigNow_13, w0_painter_paint_14, w0_painter_near_7, w0_painter_uses_15, w0_shown_22, w0_painter_free_16))))
set_option maxHeartbeats 4000000 in
set_option maxRecDepth 100000 in
theorem c_CS_lists (l : Launch) (dC : Nat → ClassId) (dI : Nat → Nat → Nat) (cI cJ cG cZ : ClassId) (a0 a0_net a0_painter a0_polynomial a0_listCounter a0_setFinder a0_takingApart a0_greedyRun a0_allowed a0_shown a0_shades a0_attempt a0_net_near a0_net_tail a0_net_head a0_painter_paint a0_painter_near a0_painter_free a0_painter_uses : Nat) (r0_painter_free : Nat → Nat) (sz : Nat) (F : Nat) (v0_net_nodes : Int32) (v0_net_arcCount : Int32) (v0_net_version : Int32) (w0_net_near : Nat → Int32) (v0_painter_items : Int32) (v0_painter_evenly : Int32) (v0_painter_palette : Int32) (v0_painter_share : Int32) (v0_painter_bigger : Int32) (v0_painter_bigNow : Int32) (w0_painter_paint : Nat → Int32) (w0_painter_near : Nat → Int32) (w0_painter_uses : Nat → Int32) (w0_allowed : Nat → Int32) (w0_shown : Nat → Int32) (w0_painter_free : Nat → Nat → Int32) (ret : Int32) (o_v0_painter_items : Int32) (o_v0_painter_evenly : Int32) (o_v0_painter_palette : Int32) (o_v0_painter_share : Int32) (o_v0_painter_bigger : Int32) (o_v0_painter_bigNow : Int32) (o_w0_painter_paint : Nat → Int32) (o_w0_painter_near : Nat → Int32) (o_w0_painter_uses : Nat → Int32) (o_w0_shown : Nat → Int32) (o_w0_painter_free : Nat → Nat → Int32) (hm : m_CS_lists F v0_net_nodes v0_net_arcCount v0_net_version w0_net_near v0_painter_items v0_painter_evenly v0_painter_palette v0_painter_share v0_painter_bigger v0_painter_bigNow w0_painter_paint w0_painter_near w0_painter_uses w0_allowed w0_shown w0_painter_free = some (ret, o_v0_painter_items, o_v0_painter_evenly, o_v0_painter_palette, o_v0_painter_share, o_v0_painter_bigger, o_v0_painter_bigNow, o_w0_painter_paint, o_w0_painter_near, o_w0_painter_uses, o_w0_shown, o_w0_painter_free)) : Met l y_CS_lists us_CS_lists rm_CS_lists (PcS (dC, dI) (tyL cI cJ cG cZ) [.ref a0] sz (wd_CS_lists cI cJ cG cZ a0 a0_net a0_painter a0_polynomial a0_listCounter a0_setFinder a0_takingApart a0_greedyRun a0_allowed a0_shown a0_shades a0_attempt a0_net_near a0_net_tail a0_net_head a0_painter_paint a0_painter_near a0_painter_free a0_painter_uses r0_painter_free v0_net_nodes v0_net_arcCount v0_net_version w0_net_near v0_painter_items v0_painter_evenly v0_painter_palette v0_painter_share v0_painter_bigger v0_painter_bigNow w0_painter_paint w0_painter_near w0_painter_uses w0_allowed w0_shown w0_painter_free)) (va_Qi (fun (r : Int32) (_ : Unit) => ret = r) (fun _ t => PoS (dC, dI) (tyL cI cJ cG cZ) (wd_CS_lists cI cJ cG cZ a0 a0_net a0_painter a0_polynomial a0_listCounter a0_setFinder a0_takingApart a0_greedyRun a0_allowed a0_shown a0_shades a0_attempt a0_net_near a0_net_tail a0_net_head a0_painter_paint a0_painter_near a0_painter_free a0_painter_uses r0_painter_free v0_net_nodes v0_net_arcCount v0_net_version w0_net_near o_v0_painter_items o_v0_painter_evenly o_v0_painter_palette o_v0_painter_share o_v0_painter_bigger o_v0_painter_bigNow o_w0_painter_paint o_w0_painter_near o_w0_painter_uses w0_allowed o_w0_shown o_w0_painter_free) (va_A (wd_CS_lists cI cJ cG cZ a0 a0_net a0_painter a0_polynomial a0_listCounter a0_setFinder a0_takingApart a0_greedyRun a0_allowed a0_shown a0_shades a0_attempt a0_net_near a0_net_tail a0_net_head a0_painter_paint a0_painter_near a0_painter_free a0_painter_uses r0_painter_free v0_net_nodes v0_net_arcCount v0_net_version w0_net_near v0_painter_items v0_painter_evenly v0_painter_palette v0_painter_share v0_painter_bigger v0_painter_bigNow w0_painter_paint w0_painter_near w0_painter_uses w0_allowed w0_shown w0_painter_free) sz) t) (va_A (wd_CS_lists cI cJ cG cZ a0 a0_net a0_painter a0_polynomial a0_listCounter a0_setFinder a0_takingApart a0_greedyRun a0_allowed a0_shown a0_shades a0_attempt a0_net_near a0_net_tail a0_net_head a0_painter_paint a0_painter_near a0_painter_free a0_painter_uses r0_painter_free v0_net_nodes v0_net_arcCount v0_net_version w0_net_near v0_painter_items v0_painter_evenly v0_painter_palette v0_painter_share v0_painter_bigger v0_painter_bigNow w0_painter_paint w0_painter_near w0_painter_uses w0_allowed w0_shown w0_painter_free) sz)) 0 0 (va_A (wd_CS_lists cI cJ cG cZ a0 a0_net a0_painter a0_polynomial a0_listCounter a0_setFinder a0_takingApart a0_greedyRun a0_allowed a0_shown a0_shades a0_attempt a0_net_near a0_net_tail a0_net_head a0_painter_paint a0_painter_near a0_painter_free a0_painter_uses r0_painter_free v0_net_nodes v0_net_arcCount v0_net_version w0_net_near v0_painter_items v0_painter_evenly v0_painter_palette v0_painter_share v0_painter_bigger v0_painter_bigNow w0_painter_paint w0_painter_near w0_painter_uses w0_allowed w0_shown w0_painter_free) sz) := by
  refine Met.ofW (cc := prog_1_method_11_code) (maxL := 1) (ret := (some .int)) (by decide) rfl ?_
  intro p e s m args below meth c s₁ B hml hv
  obtain ⟨rfl, hsz, hP, hK, hD0, hNw⟩ := hv
  have hx := B.exec
  have hb := B.bytes
  have hr := B.returns
  have htt : ∀ w ∈ gtbl, w.before _ s = true := fun w h => atoms_spec (ws := us_CS_lists) B.pre w (List.mem_cons_of_mem _ h)
  have hown : s.vm.findClass R_CS = some m.cls := findClass_of_methodNamed B.named
  have hlocks := B.notSynchronized
  subst hsz
  have hD := hD0.self (sz := s.heap.size)
  generalize hAe : va_A (wd_CS_lists cI cJ cG cZ a0 a0_net a0_painter a0_polynomial a0_listCounter a0_setFinder a0_takingApart a0_greedyRun a0_allowed a0_shown a0_shades a0_attempt a0_net_near a0_net_tail a0_net_head a0_painter_paint a0_painter_near a0_painter_free a0_painter_uses r0_painter_free v0_net_nodes v0_net_arcCount v0_net_version w0_net_near v0_painter_items v0_painter_evenly v0_painter_palette v0_painter_share v0_painter_bigger v0_painter_bigNow w0_painter_paint w0_painter_near w0_painter_uses w0_allowed w0_shown w0_painter_free) s.heap.size = A at hD ⊢
  have hA : ∀ q : Nat, s.heap.size ≤ q → A q := fun q h => by rw [← hAe]; exact Or.inr h
  clear hAe hD0
  have hS : va_S A s.heap s.heap [] := va_S.rf
  have hl := lv_entry ([.ref a0]) (n := 1) (Nat.le_of_ble_eq_true rfl)
  rw [lg_entry_eq]
  generalize (lg_sl ([.ref a0]) ++ List.replicate (1 - (lg_sl ([.ref a0])).length) Slot.unset).toArray = ls at hl ⊢
  have hl : lv_has ls 1 [(0, .ref a0)] := hl
  generalize hH : s.heap = H at hP ⊢
  have hS : va_S A s.heap H [] := hH ▸ hS
  generalize hLo : ([] : List Loc) = locs at hS ⊢
  clear hH hLo
  unfold m_CS_lists at hm
  refine lv_aload_n hx hb d_CS_lists_0 rfl (lv_at hl 0 rfl) ?_
  refine va_get (D := (dC, dI)) (ci := 0) (v := .ref a0_painter) (C := R_CS) (T := T_CS) (N := 11) hx hb htt hin_CS hown hK hP 0 rfl rfl 1 (by decide) (htt _ kt_225) (fun _ h9 => h9) rfl d_CS_lists_1 ?_
  refine lv_aload_n hx hb d_CS_lists_4 rfl (lv_at hl 0 rfl) ?_
  refine va_get (D := (dC, dI)) (ci := 0) (v := .ref a0_net) (C := R_CS) (T := T_CS) (N := 11) hx hb htt hin_CS hown hK hP 0 rfl rfl 0 (by decide) (htt _ kt_224) (fun _ h9 => h9) rfl d_CS_lists_5 ?_
  refine lv_aload_n hx hb d_CS_lists_8 rfl (lv_at hl 0 rfl) ?_
  refine va_get (D := (dC, dI)) (ci := 0) (v := .ref a0_allowed) (C := R_CS) (T := T_CS) (N := 11) hx hb htt hin_CS hown hK hP 0 rfl rfl 7 (by decide) (htt _ kt_231) (fun _ h9 => h9) rfl d_CS_lists_9 ?_
  obtain ⟨⟨v0_painter_items_1, v0_painter_evenly_2, v0_painter_palette_3, v0_painter_share_4, v0_painter_bigger_5, v0_painter_bigNow_6, w0_painter_near_7, w0_painter_uses_8, w0_painter_free_9⟩, hc_10, hm⟩ := gM_e hm
  dsimp only at hm
  have hPc : va_P (dC, dI) vwCl (wd_Pai_startLists cI cJ cG cZ a0_painter a0_net a0_allowed a0_painter_paint a0_painter_near a0_painter_free a0_painter_uses a0_net_near a0_net_tail a0_net_head r0_painter_free v0_painter_items v0_painter_evenly v0_painter_palette v0_painter_share v0_painter_bigger v0_painter_bigNow w0_painter_near w0_painter_uses v0_net_nodes v0_net_arcCount v0_net_version w0_net_near w0_allowed w0_painter_free) H := hP.part [3, 5, 6, 7, 1, 2, 8] rfl
  have hDc : va_D A (wd_Pai_startLists cI cJ cG cZ a0_painter a0_net a0_allowed a0_painter_paint a0_painter_near a0_painter_free a0_painter_uses a0_net_near a0_net_tail a0_net_head r0_painter_free v0_painter_items v0_painter_evenly v0_painter_palette v0_painter_share v0_painter_bigger v0_painter_bigNow w0_painter_near w0_painter_uses v0_net_nodes v0_net_arcCount v0_net_version w0_net_near w0_allowed w0_painter_free) := hD.part [3, 5, 6, 7, 1, 2, 8] (by decide) rfl
  have hFc : ∀ q, va_A (wd_Pai_startLists cI cJ cG cZ a0_painter a0_net a0_allowed a0_painter_paint a0_painter_near a0_painter_free a0_painter_uses a0_net_near a0_net_tail a0_net_head r0_painter_free v0_painter_items v0_painter_evenly v0_painter_palette v0_painter_share v0_painter_bigger v0_painter_bigNow w0_painter_near w0_painter_uses v0_net_nodes v0_net_arcCount v0_net_version w0_net_near w0_allowed w0_painter_free) H.size q → A q := va_freeP hD hS hA [3, 5, 6, 7, 1, 2, 8] rfl
  refine va_callv (va_runV (As := [.ref a0_net, .ref a0_allowed]) (rest := []) ⟨hx, hb, hml, hown, htt⟩ (c_Pai_startLists l dC dI cI cJ cG cZ a0_painter a0_net a0_allowed a0_painter_paint a0_painter_near a0_painter_free a0_painter_uses a0_net_near a0_net_tail a0_net_head r0_painter_free H.size F v0_painter_items v0_painter_evenly v0_painter_palette v0_painter_share v0_painter_bigger v0_painter_bigNow w0_painter_near w0_painter_uses v0_net_nodes v0_net_arcCount v0_net_version w0_net_near w0_allowed w0_painter_free v0_painter_items_1 v0_painter_evenly_2 v0_painter_palette_3 v0_painter_share_4 v0_painter_bigger_5 v0_painter_bigNow_6 w0_painter_near_7 w0_painter_uses_8 w0_painter_free_9 hc_10) (cwV 2 htt (gdV kt_445 kt_446 kt_447 kt_3 kt_448) rfl rfl rfl (by decide +kernel) ⟨(Nat.le_of_ble_eq_true rfl), (Nat.le_of_ble_eq_true rfl)⟩) ⟨PcS_blind, va_recv hK hPc (ci := 2) (q0 := 0) rfl rfl, PcS_in hPc hK hDc hNw⟩ rfl rfl hl.1 rfl (lv_room (Nat.le_of_ble_eq_true rfl)) d_CS_lists_12 ⟨Nat.zero_le _, Nat.zero_le _⟩) hS (fun q _ h => hFc q h) hFc (fun u t H1 locs ht hvm hw hB hz1 hk1 hS => ?_)
  obtain ⟨hP1, hK1, hD1⟩ := hB
  rw [ht] at hP1
  obtain ⟨hP, hD⟩ := va_joinP (wr := [(a0, .inr (0, [.ref a0_net, .ref a0_painter, .ref a0_polynomial, .ref a0_listCounter, .ref a0_setFinder, .ref a0_takingApart, .ref a0_greedyRun, .ref a0_allowed, .ref a0_shown, .ref a0_shades, .ref a0_attempt])), (a0_painter_paint, .inl (cI, 16, .inl w0_painter_paint)), (a0_shown, .inl (cI, 12, .inl w0_shown))]) (rx := (we_Pai_startLists cI cJ cG cZ a0_painter a0_net a0_allowed a0_painter_paint a0_painter_near a0_painter_free a0_painter_uses a0_net_near a0_net_tail a0_net_head r0_painter_free v0_painter_items_1 v0_painter_evenly_2 v0_painter_palette_3 v0_painter_share_4 v0_painter_bigger_5 v0_painter_bigNow_6 w0_painter_near_7 w0_painter_uses_8 v0_net_nodes v0_net_arcCount v0_net_version w0_net_near w0_allowed w0_painter_free_9)) hP hD [3, 5, 6, 7, 1, 2, 8] [0, 4, 9] rfl rfl (by decide) (by decide) hk1 hFc hP1 hD1
  have hP : va_P (dC, dI) vwCl (wd_CS_lists cI cJ cG cZ a0 a0_net a0_painter a0_polynomial a0_listCounter a0_setFinder a0_takingApart a0_greedyRun a0_allowed a0_shown a0_shades a0_attempt a0_net_near a0_net_tail a0_net_head a0_painter_paint a0_painter_near a0_painter_free a0_painter_uses r0_painter_free v0_net_nodes v0_net_arcCount v0_net_version w0_net_near v0_painter_items_1 v0_painter_evenly_2 v0_painter_palette_3 v0_painter_share_4 v0_painter_bigger_5 v0_painter_bigNow_6 w0_painter_paint w0_painter_near_7 w0_painter_uses_8 w0_allowed w0_shown w0_painter_free_9) H1 := hP.part [0, 7, 8, 3, 1, 4, 5, 6, 9, 2] rfl
  have hD : va_D A (wd_CS_lists cI cJ cG cZ a0 a0_net a0_painter a0_polynomial a0_listCounter a0_setFinder a0_takingApart a0_greedyRun a0_allowed a0_shown a0_shades a0_attempt a0_net_near a0_net_tail a0_net_head a0_painter_paint a0_painter_near a0_painter_free a0_painter_uses r0_painter_free v0_net_nodes v0_net_arcCount v0_net_version w0_net_near v0_painter_items_1 v0_painter_evenly_2 v0_painter_palette_3 v0_painter_share_4 v0_painter_bigger_5 v0_painter_bigNow_6 w0_painter_paint w0_painter_near_7 w0_painter_uses_8 w0_allowed w0_shown w0_painter_free_9) := hD.part [0, 7, 8, 3, 1, 4, 5, 6, 9, 2] (by decide) rfl
  clear hP1 hK1 hD1 hk1 hPc hDc hFc ht hvm hz1
  generalize H1 = H at hP hS ⊢
  refine lv_aload_n hx hb d_CS_lists_15 rfl (lv_at hl 0 rfl) ?_
  refine lv_aload_n hx hb d_CS_lists_16 rfl (lv_at hl 0 rfl) ?_
  refine va_get (D := (dC, dI)) (ci := 0) (v := .ref a0_painter) (C := R_CS) (T := T_CS) (N := 11) hx hb htt hin_CS hown hK hP 0 rfl rfl 1 (by decide) (htt _ kt_225) (fun _ h9 => h9) rfl d_CS_lists_17 ?_
  obtain ⟨⟨q_12, v0_painter_bigNow_13, w0_painter_paint_14, w0_painter_uses_15, w0_painter_free_16⟩, hc_17, hm⟩ := gM_e hm
  dsimp only at hm
  have hPc : va_P (dC, dI) vwCl (wd_Pai_paintFirst cI cJ cG cZ a0_painter a0_painter_paint a0_painter_near a0_painter_free a0_painter_uses r0_painter_free v0_painter_items_1 v0_painter_evenly_2 v0_painter_palette_3 v0_painter_share_4 v0_painter_bigger_5 v0_painter_bigNow_6 w0_painter_paint w0_painter_near_7 w0_painter_uses_8 w0_painter_free_9) H := hP.part [3, 4, 5, 6, 7] rfl
  have hDc : va_D A (wd_Pai_paintFirst cI cJ cG cZ a0_painter a0_painter_paint a0_painter_near a0_painter_free a0_painter_uses r0_painter_free v0_painter_items_1 v0_painter_evenly_2 v0_painter_palette_3 v0_painter_share_4 v0_painter_bigger_5 v0_painter_bigNow_6 w0_painter_paint w0_painter_near_7 w0_painter_uses_8 w0_painter_free_9) := hD.part [3, 4, 5, 6, 7] (by decide) rfl
  have hFc : ∀ q, va_A (wd_Pai_paintFirst cI cJ cG cZ a0_painter a0_painter_paint a0_painter_near a0_painter_free a0_painter_uses r0_painter_free v0_painter_items_1 v0_painter_evenly_2 v0_painter_palette_3 v0_painter_share_4 v0_painter_bigger_5 v0_painter_bigNow_6 w0_painter_paint w0_painter_near_7 w0_painter_uses_8 w0_painter_free_9) H.size q → A q := va_freeP hD hS hA [3, 4, 5, 6, 7] rfl
  refine va_calli (va_runV (As := []) (rest := [.ref a0]) ⟨hx, hb, hml, hown, htt⟩ (c_Pai_paintFirst l dC dI cI cJ cG cZ a0_painter a0_painter_paint a0_painter_near a0_painter_free a0_painter_uses r0_painter_free H.size F v0_painter_items_1 v0_painter_evenly_2 v0_painter_palette_3 v0_painter_share_4 v0_painter_bigger_5 v0_painter_bigNow_6 w0_painter_paint w0_painter_near_7 w0_painter_uses_8 w0_painter_free_9 q_12 v0_painter_bigNow_13 w0_painter_paint_14 w0_painter_uses_15 w0_painter_free_16 hc_17) (cwV 0 htt (gdV kt_306 kt_307 kt_308 kt_3 kt_309) rfl rfl rfl (by decide +kernel) ⟨(Nat.le_of_ble_eq_true rfl), (Nat.le_of_ble_eq_true rfl)⟩) ⟨PcS_blind, va_recv hK hPc (ci := 2) (q0 := 0) rfl rfl, PcS_in hPc hK hDc hNw⟩ rfl rfl hl.1 rfl (lv_room (Nat.le_of_ble_eq_true rfl)) d_CS_lists_20 ⟨Nat.zero_le _, Nat.zero_le _⟩) hS (fun q _ h => hFc q h) hFc (fun r_19 u t H1 locs ht hvm hw hB hz1 hk1 hS => ?_)
  obtain ⟨hP1, hK1, hD1⟩ := hB
  rw [ht] at hP1
  obtain ⟨hw, hz_20⟩ := hw
  subst hw
  obtain ⟨hP, hD⟩ := va_joinP (wr := [(a0, .inr (0, [.ref a0_net, .ref a0_painter, .ref a0_polynomial, .ref a0_listCounter, .ref a0_setFinder, .ref a0_takingApart, .ref a0_greedyRun, .ref a0_allowed, .ref a0_shown, .ref a0_shades, .ref a0_attempt])), (a0_net, .inr (1, [.ref a0_net_near, .ref a0_net_tail, .ref a0_net_head, .int v0_net_nodes, .int v0_net_arcCount, .int v0_net_version])), (a0_net_near, .inl (cI, 12, .inl w0_net_near)), (a0_allowed, .inl (cI, 12, .inl w0_allowed)), (a0_shown, .inl (cI, 12, .inl w0_shown))]) (rx := (we_Pai_paintFirst cI cJ cG cZ a0_painter a0_painter_paint a0_painter_near a0_painter_free a0_painter_uses r0_painter_free v0_painter_items_1 v0_painter_evenly_2 v0_painter_palette_3 v0_painter_share_4 v0_painter_bigger_5 v0_painter_bigNow_13 w0_painter_paint_14 w0_painter_near_7 w0_painter_uses_15 w0_painter_free_16)) hP hD [3, 4, 5, 6, 7] [0, 1, 2, 8, 9] rfl rfl (by decide) (by decide) hk1 hFc hP1 hD1
  have hP : va_P (dC, dI) vwCl (wd_CS_lists cI cJ cG cZ a0 a0_net a0_painter a0_polynomial a0_listCounter a0_setFinder a0_takingApart a0_greedyRun a0_allowed a0_shown a0_shades a0_attempt a0_net_near a0_net_tail a0_net_head a0_painter_paint a0_painter_near a0_painter_free a0_painter_uses r0_painter_free v0_net_nodes v0_net_arcCount v0_net_version w0_net_near v0_painter_items_1 v0_painter_evenly_2 v0_painter_palette_3 v0_painter_share_4 v0_painter_bigger_5 v0_painter_bigNow_13 w0_painter_paint_14 w0_painter_near_7 w0_painter_uses_15 w0_allowed w0_shown w0_painter_free_16) H1 := hP.part [0, 1, 2, 5, 6, 7, 8, 9, 3, 4] rfl
  have hD : va_D A (wd_CS_lists cI cJ cG cZ a0 a0_net a0_painter a0_polynomial a0_listCounter a0_setFinder a0_takingApart a0_greedyRun a0_allowed a0_shown a0_shades a0_attempt a0_net_near a0_net_tail a0_net_head a0_painter_paint a0_painter_near a0_painter_free a0_painter_uses r0_painter_free v0_net_nodes v0_net_arcCount v0_net_version w0_net_near v0_painter_items_1 v0_painter_evenly_2 v0_painter_palette_3 v0_painter_share_4 v0_painter_bigger_5 v0_painter_bigNow_13 w0_painter_paint_14 w0_painter_near_7 w0_painter_uses_15 w0_allowed w0_shown w0_painter_free_16) := hD.part [0, 1, 2, 5, 6, 7, 8, 9, 3, 4] (by decide) rfl
  clear hP1 hK1 hD1 hk1 hPc hDc hFc ht hvm hz1
  generalize H1 = H at hP hS ⊢
  obtain ⟨⟨q_21, w0_shown_22⟩, hc_23, hm⟩ := gM_e hm
  dsimp only at hm
  have hPc : va_P (dC, dI) vwCl (wd_CS_showWhether cI cJ cG cZ a0 a0_net a0_painter a0_polynomial a0_listCounter a0_setFinder a0_takingApart a0_greedyRun a0_allowed a0_shown a0_shades a0_attempt a0_net_near a0_net_tail a0_net_head a0_painter_paint a0_painter_near a0_painter_free a0_painter_uses v0_net_nodes v0_net_arcCount v0_net_version v0_painter_items_1 v0_painter_evenly_2 v0_painter_palette_3 v0_painter_share_4 v0_painter_bigger_5 v0_painter_bigNow_13 w0_painter_paint_14 w0_shown) H := hP.sub [0, 1, 3, 4, 9] rfl
  have hDc : va_D A (wd_CS_showWhether cI cJ cG cZ a0 a0_net a0_painter a0_polynomial a0_listCounter a0_setFinder a0_takingApart a0_greedyRun a0_allowed a0_shown a0_shades a0_attempt a0_net_near a0_net_tail a0_net_head a0_painter_paint a0_painter_near a0_painter_free a0_painter_uses v0_net_nodes v0_net_arcCount v0_net_version v0_painter_items_1 v0_painter_evenly_2 v0_painter_palette_3 v0_painter_share_4 v0_painter_bigger_5 v0_painter_bigNow_13 w0_painter_paint_14 w0_shown) := hD.sub [0, 1, 3, 4, 9] (by decide) rfl
  have hFc : ∀ q, va_A (wd_CS_showWhether cI cJ cG cZ a0 a0_net a0_painter a0_polynomial a0_listCounter a0_setFinder a0_takingApart a0_greedyRun a0_allowed a0_shown a0_shades a0_attempt a0_net_near a0_net_tail a0_net_head a0_painter_paint a0_painter_near a0_painter_free a0_painter_uses v0_net_nodes v0_net_arcCount v0_net_version v0_painter_items_1 v0_painter_evenly_2 v0_painter_palette_3 v0_painter_share_4 v0_painter_bigger_5 v0_painter_bigNow_13 w0_painter_paint_14 w0_shown) H.size q → A q := va_free hD hS hA [0, 1, 3, 4, 9] rfl
  refine va_calli (va_runV (As := [.int q_12]) (rest := []) ⟨hx, hb, hml, hown, htt⟩ (c_CS_showWhether l dC dI cI cJ cG cZ a0 a0_net a0_painter a0_polynomial a0_listCounter a0_setFinder a0_takingApart a0_greedyRun a0_allowed a0_shown a0_shades a0_attempt a0_net_near a0_net_tail a0_net_head a0_painter_paint a0_painter_near a0_painter_free a0_painter_uses H.size F v0_net_nodes v0_net_arcCount v0_net_version v0_painter_items_1 v0_painter_evenly_2 v0_painter_palette_3 v0_painter_share_4 v0_painter_bigger_5 v0_painter_bigNow_13 w0_painter_paint_14 w0_shown q_12 q_21 w0_shown_22 hc_23) (cwV 1 htt (gdV kt_374 kt_376 kp_13 kt_1 kt_377) rfl rfl rfl (by decide +kernel) ⟨(Nat.le_of_ble_eq_true rfl), (Nat.le_of_ble_eq_true rfl)⟩) ⟨PcS_blind, va_recv hK hPc (ci := 0) (q0 := 0) rfl rfl, PcS_in hPc hK hDc hNw⟩ rfl rfl hl.1 rfl (lv_room (Nat.le_of_ble_eq_true rfl)) d_CS_lists_23 ⟨Nat.zero_le _, Nat.zero_le _⟩) hS (fun q _ h => hFc q h) hFc (fun r_25 u t H1 locs ht hvm hw hB hz1 hk1 hS => ?_)
  obtain ⟨hP1, hK1, hD1⟩ := hB
  rw [ht] at hP1
  subst hw
  obtain ⟨hP, hD⟩ := va_joinQ (wr := [(a0_net_near, .inl (cI, 12, .inl w0_net_near)), (a0_painter_near, .inl (cI, 16, .inl w0_painter_near_7)), (a0_painter_free, .inl (cG, 18, .inr (.inr (.inr (.inr (gO r0_painter_free 18)))))), (a0_painter_uses, .inl (cI, 12, .inl w0_painter_uses_15)), (a0_allowed, .inl (cI, 12, .inl w0_allowed))]) (w1 := (wd_CS_showWhether cI cJ cG cZ a0 a0_net a0_painter a0_polynomial a0_listCounter a0_setFinder a0_takingApart a0_greedyRun a0_allowed a0_shown a0_shades a0_attempt a0_net_near a0_net_tail a0_net_head a0_painter_paint a0_painter_near a0_painter_free a0_painter_uses v0_net_nodes v0_net_arcCount v0_net_version v0_painter_items_1 v0_painter_evenly_2 v0_painter_palette_3 v0_painter_share_4 v0_painter_bigger_5 v0_painter_bigNow_13 w0_painter_paint_14 w0_shown_22)) hP hD [0, 1, 3, 4, 9] [2, 5, 6, 7, 8] rfl rfl (by decide) (by decide) hk1 hFc hP1 hD1
  have hP : va_P (dC, dI) vwCl (wd_CS_lists cI cJ cG cZ a0 a0_net a0_painter a0_polynomial a0_listCounter a0_setFinder a0_takingApart a0_greedyRun a0_allowed a0_shown a0_shades a0_attempt a0_net_near a0_net_tail a0_net_head a0_painter_paint a0_painter_near a0_painter_free a0_painter_uses r0_painter_free v0_net_nodes v0_net_arcCount v0_net_version w0_net_near v0_painter_items_1 v0_painter_evenly_2 v0_painter_palette_3 v0_painter_share_4 v0_painter_bigger_5 v0_painter_bigNow_13 w0_painter_paint_14 w0_painter_near_7 w0_painter_uses_15 w0_allowed w0_shown_22 w0_painter_free_16) H1 := hP.part [5, 6, 0, 7, 8, 1, 2, 3, 4, 9] rfl
  have hD : va_D A (wd_CS_lists cI cJ cG cZ a0 a0_net a0_painter a0_polynomial a0_listCounter a0_setFinder a0_takingApart a0_greedyRun a0_allowed a0_shown a0_shades a0_attempt a0_net_near a0_net_tail a0_net_head a0_painter_paint a0_painter_near a0_painter_free a0_painter_uses r0_painter_free v0_net_nodes v0_net_arcCount v0_net_version w0_net_near v0_painter_items_1 v0_painter_evenly_2 v0_painter_palette_3 v0_painter_share_4 v0_painter_bigger_5 v0_painter_bigNow_13 w0_painter_paint_14 w0_painter_near_7 w0_painter_uses_15 w0_allowed w0_shown_22 w0_painter_free_16) := hD.part [5, 6, 0, 7, 8, 1, 2, 3, 4, 9] (by decide) rfl
  clear hP1 hK1 hD1 hk1 hPc hDc hFc ht hvm hz1
  generalize H1 = H at hP hS ⊢
  cases hm
  exact W.iret hx hb hr (fun t ht hW => ⟨⟨_, (), rfl, rfl, by rw [ht]; exact hP, va_K.moved hW.alike hK, hD⟩, hS.F ht⟩) hS.2.2 d_CS_lists_26
theorem d_CS_hasListColouring_0 : decode prog_1_method_33_code 0 = .ok (.aload_n 0, 1) := by decide +kernel
theorem d_CS_hasListColouring_1 : decode prog_1_method_33_code 1 = .ok (.getfield 19, 3) := by decide +kernel
theorem d_CS_hasListColouring_4 : decode prog_1_method_33_code 4 = .ok (.aload_n 0, 1) := by decide +kernel
theorem d_CS_hasListColouring_5 : decode prog_1_method_33_code 5 = .ok (.getfield 12, 3) := by decide +kernel
theorem d_CS_hasListColouring_8 : decode prog_1_method_33_code 8 = .ok (.aload_n 0, 1) := by decide +kernel
theorem d_CS_hasListColouring_9 : decode prog_1_method_33_code 9 = .ok (.getfield 58, 3) := by decide +kernel
theorem d_CS_hasListColouring_12 : decode prog_1_method_33_code 12 = .ok (.invokevirtual 130, 3) := by decide +kernel
theorem d_CS_hasListColouring_15 : decode prog_1_method_33_code 15 = .ok (.aload_n 0, 1) := by decide +kernel
theorem d_CS_hasListColouring_16 : decode prog_1_method_33_code 16 = .ok (.getfield 19, 3) := by decide +kernel
theorem d_CS_hasListColouring_19 : decode prog_1_method_33_code 19 = .ok (.iload_n 1, 1) := by decide +kernel
theorem d_CS_hasListColouring_20 : decode prog_1_method_33_code 20 = .ok (.invokevirtual 225, 3) := by decide +kernel
theorem d_CS_hasListColouring_23 : decode prog_1_method_33_code 23 = .ok (.ireturn, 1) := by decide +kernel
abbrev wd_CS_hasListColouring (cI cJ cG cZ : ClassId) (a0 a0_net a0_painter a0_polynomial a0_listCounter a0_setFinder a0_takingApart a0_greedyRun a0_allowed a0_shown a0_shades a0_attempt a0_net_near a0_net_tail a0_net_head a0_painter_paint a0_painter_near a0_painter_free a0_painter_uses : Nat) (r0_painter_free : Nat → Nat) (v0_net_nodes : Int32) (v0_net_arcCount : Int32) (v0_net_version : Int32) (w0_net_near : Nat → Int32) (v0_painter_items : Int32) (v0_painter_evenly : Int32) (v0_painter_palette : Int32) (v0_painter_share : Int32) (v0_painter_bigger : Int32) (v0_painter_bigNow : Int32) (w0_painter_near : Nat → Int32) (w0_painter_uses : Nat → Int32) (w0_allowed : Nat → Int32) (w0_painter_free : Nat → Nat → Int32) : va_W := [(a0, .inr (0, [.ref a0_net, .ref a0_painter, .ref a0_polynomial, .ref a0_listCounter, .ref a0_setFinder, .ref a0_takingApart, .ref a0_greedyRun, .ref a0_allowed, .ref a0_shown, .ref a0_shades, .ref a0_attempt])), (a0_net, .inr (1, [.ref a0_net_near, .ref a0_net_tail, .ref a0_net_head, .int v0_net_nodes, .int v0_net_arcCount, .int v0_net_version])), (a0_net_near, .inl (cI, 12, .inl w0_net_near)), (a0_painter, .inr (2, [.ref a0_painter_paint, .ref a0_painter_near, .ref a0_painter_free, .ref a0_painter_uses, .int v0_painter_items, .int v0_painter_evenly, .int v0_painter_palette, .int v0_painter_share, .int v0_painter_bigger, .int v0_painter_bigNow])), (a0_painter_near, .inl (cI, 16, .inl w0_painter_near)), (a0_painter_free, .inl (cG, 18, .inr (.inr (.inr (.inr (gO r0_painter_free 18)))))), (a0_painter_uses, .inl (cI, 12, .inl w0_painter_uses)), (a0_allowed, .inl (cI, 12, .inl w0_allowed))] ++ rowsW r0_painter_free cI 16 18 w0_painter_free
abbrev we_CS_hasListColouring (cI cJ cG cZ : ClassId) (a0 a0_net a0_painter a0_polynomial a0_listCounter a0_setFinder a0_takingApart a0_greedyRun a0_allowed a0_shown a0_shades a0_attempt a0_net_near a0_net_tail a0_net_head a0_painter_paint a0_painter_near a0_painter_free a0_painter_uses : Nat) (r0_painter_free : Nat → Nat) (v0_net_nodes : Int32) (v0_net_arcCount : Int32) (v0_net_version : Int32) (w0_net_near : Nat → Int32) (v0_painter_items : Int32) (v0_painter_evenly : Int32) (v0_painter_palette : Int32) (v0_painter_share : Int32) (v0_painter_bigger : Int32) (v0_painter_bigNow : Int32) (w0_painter_near : Nat → Int32) (w0_painter_uses : Nat → Int32) (w0_allowed : Nat → Int32) (w0_painter_free : Nat → Nat → Int32) : va_W := [(a0, .inr (0, [.ref a0_net, .ref a0_painter, .ref a0_polynomial, .ref a0_listCounter, .ref a0_setFinder, .ref a0_takingApart, .ref a0_greedyRun, .ref a0_allowed, .ref a0_shown, .ref a0_shades, .ref a0_attempt])), (a0_net, .inr (1, [.ref a0_net_near, .ref a0_net_tail, .ref a0_net_head, .int v0_net_nodes, .int v0_net_arcCount, .int v0_net_version])), (a0_net_near, .inl (cI, 12, .inl w0_net_near)), (a0_painter, .inr (2, [.ref a0_painter_paint, .ref a0_painter_near, .ref a0_painter_free, .ref a0_painter_uses, .int v0_painter_items, .int v0_painter_evenly, .int v0_painter_palette, .int v0_painter_share, .int v0_painter_bigger, .int v0_painter_bigNow])), (a0_painter_near, .inl (cI, 16, .inl w0_painter_near)), (a0_painter_free, .inl (cG, 18, .inr (.inr (.inr (.inr (gO r0_painter_free 18)))))), (a0_painter_uses, .inl (cI, 12, .inl w0_painter_uses)), (a0_allowed, .inl (cI, 12, .inl w0_allowed))]
abbrev us_CS_hasListColouring : List Cond := .code y_CS_hasListColouring prog_1_method_33_code 2 (some .boolean) :: gtbl
abbrev rm_CS_hasListColouring : Room := { frames := 22, cells := 0, slots := 0, locals := 622 }
def m_CS_hasListColouring (F : Nat) (v0_net_nodes : Int32) (v0_net_arcCount : Int32) (v0_net_version : Int32) (w0_net_near : Nat → Int32) (v0_painter_items : Int32) (v0_painter_evenly : Int32) (v0_painter_palette : Int32) (v0_painter_share : Int32) (v0_painter_bigger : Int32) (v0_painter_bigNow : Int32) (w0_painter_near : Nat → Int32) (w0_painter_uses : Nat → Int32) (w0_allowed : Nat → Int32) (w0_painter_free : Nat → Nat → Int32) (p1 : Int32) : Option (Int32 × Int32 × Int32 × Int32 × Int32 × Int32 × Int32 × (Nat → Int32) × (Nat → Int32) × (Nat → Nat → Int32)) :=
  gM (m_Pai_startLists F v0_painter_items v0_painter_evenly v0_painter_palette v0_painter_share v0_painter_bigger v0_painter_bigNow w0_painter_near w0_painter_uses v0_net_nodes v0_net_arcCount v0_net_version w0_net_near w0_allowed w0_painter_free) (fun (z_11 : Int32 × Int32 × Int32 × Int32 × Int32 × Int32 × (Nat → Int32) × (Nat → Int32) × (Nat → Nat → Int32)) => match z_11 with
  | (v0_painter_items_1, v0_painter_evenly_2, v0_painter_palette_3, v0_painter_share_4, v0_painter_bigger_5, v0_painter_bigNow_6, w0_painter_near_7, w0_painter_uses_8, w0_painter_free_9) =>
  gM (m_Pai_canPaint F v0_painter_items_1 v0_painter_evenly_2 v0_painter_palette_3 v0_painter_share_4 v0_painter_bigger_5 v0_painter_bigNow_6 w0_painter_near_7 w0_painter_uses_8 w0_painter_free_9 p1) (fun (z_17 : Int32 × Int32 × (Nat → Int32) × (Nat → Nat → Int32)) => match z_17 with
  | (q_12, v0_painter_bigNow_13, w0_painter_uses_14, w0_painter_free_15) =>
  some (q_12, v0_painter_items_1, v0_painter_evenly_2, v0_painter_palette_3, v0_painter_share_4, v0_painter_bigger_5, v0_painter_bigNow_13, w0_painter_near_7, w0_painter_uses_14, w0_painter_free_15)))
set_option maxHeartbeats 4000000 in
set_option maxRecDepth 100000 in
theorem c_CS_hasListColouring (l : Launch) (dC : Nat → ClassId) (dI : Nat → Nat → Nat) (cI cJ cG cZ : ClassId) (a0 a0_net a0_painter a0_polynomial a0_listCounter a0_setFinder a0_takingApart a0_greedyRun a0_allowed a0_shown a0_shades a0_attempt a0_net_near a0_net_tail a0_net_head a0_painter_paint a0_painter_near a0_painter_free a0_painter_uses : Nat) (r0_painter_free : Nat → Nat) (sz : Nat) (F : Nat) (v0_net_nodes : Int32) (v0_net_arcCount : Int32) (v0_net_version : Int32) (w0_net_near : Nat → Int32) (v0_painter_items : Int32) (v0_painter_evenly : Int32) (v0_painter_palette : Int32) (v0_painter_share : Int32) (v0_painter_bigger : Int32) (v0_painter_bigNow : Int32) (w0_painter_near : Nat → Int32) (w0_painter_uses : Nat → Int32) (w0_allowed : Nat → Int32) (w0_painter_free : Nat → Nat → Int32) (p1 : Int32) (ret : Int32) (o_v0_painter_items : Int32) (o_v0_painter_evenly : Int32) (o_v0_painter_palette : Int32) (o_v0_painter_share : Int32) (o_v0_painter_bigger : Int32) (o_v0_painter_bigNow : Int32) (o_w0_painter_near : Nat → Int32) (o_w0_painter_uses : Nat → Int32) (o_w0_painter_free : Nat → Nat → Int32) (hm : m_CS_hasListColouring F v0_net_nodes v0_net_arcCount v0_net_version w0_net_near v0_painter_items v0_painter_evenly v0_painter_palette v0_painter_share v0_painter_bigger v0_painter_bigNow w0_painter_near w0_painter_uses w0_allowed w0_painter_free p1 = some (ret, o_v0_painter_items, o_v0_painter_evenly, o_v0_painter_palette, o_v0_painter_share, o_v0_painter_bigger, o_v0_painter_bigNow, o_w0_painter_near, o_w0_painter_uses, o_w0_painter_free)) : Met l y_CS_hasListColouring us_CS_hasListColouring rm_CS_hasListColouring (PcS (dC, dI) (tyL cI cJ cG cZ) [.ref a0, .int p1] sz (wd_CS_hasListColouring cI cJ cG cZ a0 a0_net a0_painter a0_polynomial a0_listCounter a0_setFinder a0_takingApart a0_greedyRun a0_allowed a0_shown a0_shades a0_attempt a0_net_near a0_net_tail a0_net_head a0_painter_paint a0_painter_near a0_painter_free a0_painter_uses r0_painter_free v0_net_nodes v0_net_arcCount v0_net_version w0_net_near v0_painter_items v0_painter_evenly v0_painter_palette v0_painter_share v0_painter_bigger v0_painter_bigNow w0_painter_near w0_painter_uses w0_allowed w0_painter_free)) (va_Qi (fun (r : Int32) (_ : Unit) => ret = r ∧ bz r) (fun _ t => PoS (dC, dI) (tyL cI cJ cG cZ) (wd_CS_hasListColouring cI cJ cG cZ a0 a0_net a0_painter a0_polynomial a0_listCounter a0_setFinder a0_takingApart a0_greedyRun a0_allowed a0_shown a0_shades a0_attempt a0_net_near a0_net_tail a0_net_head a0_painter_paint a0_painter_near a0_painter_free a0_painter_uses r0_painter_free v0_net_nodes v0_net_arcCount v0_net_version w0_net_near o_v0_painter_items o_v0_painter_evenly o_v0_painter_palette o_v0_painter_share o_v0_painter_bigger o_v0_painter_bigNow o_w0_painter_near o_w0_painter_uses w0_allowed o_w0_painter_free) (va_A (wd_CS_hasListColouring cI cJ cG cZ a0 a0_net a0_painter a0_polynomial a0_listCounter a0_setFinder a0_takingApart a0_greedyRun a0_allowed a0_shown a0_shades a0_attempt a0_net_near a0_net_tail a0_net_head a0_painter_paint a0_painter_near a0_painter_free a0_painter_uses r0_painter_free v0_net_nodes v0_net_arcCount v0_net_version w0_net_near v0_painter_items v0_painter_evenly v0_painter_palette v0_painter_share v0_painter_bigger v0_painter_bigNow w0_painter_near w0_painter_uses w0_allowed w0_painter_free) sz) t) (va_A (wd_CS_hasListColouring cI cJ cG cZ a0 a0_net a0_painter a0_polynomial a0_listCounter a0_setFinder a0_takingApart a0_greedyRun a0_allowed a0_shown a0_shades a0_attempt a0_net_near a0_net_tail a0_net_head a0_painter_paint a0_painter_near a0_painter_free a0_painter_uses r0_painter_free v0_net_nodes v0_net_arcCount v0_net_version w0_net_near v0_painter_items v0_painter_evenly v0_painter_palette v0_painter_share v0_painter_bigger v0_painter_bigNow w0_painter_near w0_painter_uses w0_allowed w0_painter_free) sz)) 0 0 (va_A (wd_CS_hasListColouring cI cJ cG cZ a0 a0_net a0_painter a0_polynomial a0_listCounter a0_setFinder a0_takingApart a0_greedyRun a0_allowed a0_shown a0_shades a0_attempt a0_net_near a0_net_tail a0_net_head a0_painter_paint a0_painter_near a0_painter_free a0_painter_uses r0_painter_free v0_net_nodes v0_net_arcCount v0_net_version w0_net_near v0_painter_items v0_painter_evenly v0_painter_palette v0_painter_share v0_painter_bigger v0_painter_bigNow w0_painter_near w0_painter_uses w0_allowed w0_painter_free) sz) := by
  refine Met.ofW (cc := prog_1_method_33_code) (maxL := 2) (ret := (some .boolean)) (by decide) rfl ?_
  intro p e s m args below meth c s₁ B hml hv
  obtain ⟨rfl, hsz, hP, hK, hD0, hNw⟩ := hv
  have hx := B.exec
  have hb := B.bytes
  have hr := B.returns
  have htt : ∀ w ∈ gtbl, w.before _ s = true := fun w h => atoms_spec (ws := us_CS_hasListColouring) B.pre w (List.mem_cons_of_mem _ h)
  have hown : s.vm.findClass R_CS = some m.cls := findClass_of_methodNamed B.named
  have hlocks := B.notSynchronized
  subst hsz
  have hD := hD0.self (sz := s.heap.size)
  generalize hAe : va_A (wd_CS_hasListColouring cI cJ cG cZ a0 a0_net a0_painter a0_polynomial a0_listCounter a0_setFinder a0_takingApart a0_greedyRun a0_allowed a0_shown a0_shades a0_attempt a0_net_near a0_net_tail a0_net_head a0_painter_paint a0_painter_near a0_painter_free a0_painter_uses r0_painter_free v0_net_nodes v0_net_arcCount v0_net_version w0_net_near v0_painter_items v0_painter_evenly v0_painter_palette v0_painter_share v0_painter_bigger v0_painter_bigNow w0_painter_near w0_painter_uses w0_allowed w0_painter_free) s.heap.size = A at hD ⊢
  have hA : ∀ q : Nat, s.heap.size ≤ q → A q := fun q h => by rw [← hAe]; exact Or.inr h
  clear hAe hD0
  have hS : va_S A s.heap s.heap [] := va_S.rf
  have hl := lv_entry ([.ref a0, .int p1]) (n := 2) (Nat.le_of_ble_eq_true rfl)
  rw [lg_entry_eq]
  generalize (lg_sl ([.ref a0, .int p1]) ++ List.replicate (2 - (lg_sl ([.ref a0, .int p1])).length) Slot.unset).toArray = ls at hl ⊢
  have hl : lv_has ls 2 [(0, .ref a0), (1, .int p1)] := hl
  generalize hH : s.heap = H at hP ⊢
  have hS : va_S A s.heap H [] := hH ▸ hS
  generalize hLo : ([] : List Loc) = locs at hS ⊢
  clear hH hLo
  unfold m_CS_hasListColouring at hm
  refine lv_aload_n hx hb d_CS_hasListColouring_0 rfl (lv_at hl 0 rfl) ?_
  refine va_get (D := (dC, dI)) (ci := 0) (v := .ref a0_painter) (C := R_CS) (T := T_CS) (N := 11) hx hb htt hin_CS hown hK hP 0 rfl rfl 1 (by decide) (htt _ kt_225) (fun _ h9 => h9) rfl d_CS_hasListColouring_1 ?_
  refine lv_aload_n hx hb d_CS_hasListColouring_4 rfl (lv_at hl 0 rfl) ?_
  refine va_get (D := (dC, dI)) (ci := 0) (v := .ref a0_net) (C := R_CS) (T := T_CS) (N := 11) hx hb htt hin_CS hown hK hP 0 rfl rfl 0 (by decide) (htt _ kt_224) (fun _ h9 => h9) rfl d_CS_hasListColouring_5 ?_
  refine lv_aload_n hx hb d_CS_hasListColouring_8 rfl (lv_at hl 0 rfl) ?_
  refine va_get (D := (dC, dI)) (ci := 0) (v := .ref a0_allowed) (C := R_CS) (T := T_CS) (N := 11) hx hb htt hin_CS hown hK hP 0 rfl rfl 7 (by decide) (htt _ kt_231) (fun _ h9 => h9) rfl d_CS_hasListColouring_9 ?_
  obtain ⟨⟨v0_painter_items_1, v0_painter_evenly_2, v0_painter_palette_3, v0_painter_share_4, v0_painter_bigger_5, v0_painter_bigNow_6, w0_painter_near_7, w0_painter_uses_8, w0_painter_free_9⟩, hc_10, hm⟩ := gM_e hm
  dsimp only at hm
  have hPc : va_P (dC, dI) vwCl (wd_Pai_startLists cI cJ cG cZ a0_painter a0_net a0_allowed a0_painter_paint a0_painter_near a0_painter_free a0_painter_uses a0_net_near a0_net_tail a0_net_head r0_painter_free v0_painter_items v0_painter_evenly v0_painter_palette v0_painter_share v0_painter_bigger v0_painter_bigNow w0_painter_near w0_painter_uses v0_net_nodes v0_net_arcCount v0_net_version w0_net_near w0_allowed w0_painter_free) H := hP.part [3, 4, 5, 6, 1, 2, 7] rfl
  have hDc : va_D A (wd_Pai_startLists cI cJ cG cZ a0_painter a0_net a0_allowed a0_painter_paint a0_painter_near a0_painter_free a0_painter_uses a0_net_near a0_net_tail a0_net_head r0_painter_free v0_painter_items v0_painter_evenly v0_painter_palette v0_painter_share v0_painter_bigger v0_painter_bigNow w0_painter_near w0_painter_uses v0_net_nodes v0_net_arcCount v0_net_version w0_net_near w0_allowed w0_painter_free) := hD.part [3, 4, 5, 6, 1, 2, 7] (by decide) rfl
  have hFc : ∀ q, va_A (wd_Pai_startLists cI cJ cG cZ a0_painter a0_net a0_allowed a0_painter_paint a0_painter_near a0_painter_free a0_painter_uses a0_net_near a0_net_tail a0_net_head r0_painter_free v0_painter_items v0_painter_evenly v0_painter_palette v0_painter_share v0_painter_bigger v0_painter_bigNow w0_painter_near w0_painter_uses v0_net_nodes v0_net_arcCount v0_net_version w0_net_near w0_allowed w0_painter_free) H.size q → A q := va_freeP hD hS hA [3, 4, 5, 6, 1, 2, 7] rfl
  refine va_callv (va_runV (As := [.ref a0_net, .ref a0_allowed]) (rest := []) ⟨hx, hb, hml, hown, htt⟩ (c_Pai_startLists l dC dI cI cJ cG cZ a0_painter a0_net a0_allowed a0_painter_paint a0_painter_near a0_painter_free a0_painter_uses a0_net_near a0_net_tail a0_net_head r0_painter_free H.size F v0_painter_items v0_painter_evenly v0_painter_palette v0_painter_share v0_painter_bigger v0_painter_bigNow w0_painter_near w0_painter_uses v0_net_nodes v0_net_arcCount v0_net_version w0_net_near w0_allowed w0_painter_free v0_painter_items_1 v0_painter_evenly_2 v0_painter_palette_3 v0_painter_share_4 v0_painter_bigger_5 v0_painter_bigNow_6 w0_painter_near_7 w0_painter_uses_8 w0_painter_free_9 hc_10) (cwV 2 htt (gdV kt_445 kt_446 kt_447 kt_3 kt_448) rfl rfl rfl (by decide +kernel) ⟨(Nat.le_of_ble_eq_true rfl), (Nat.le_of_ble_eq_true rfl)⟩) ⟨PcS_blind, va_recv hK hPc (ci := 2) (q0 := 0) rfl rfl, PcS_in hPc hK hDc hNw⟩ rfl rfl hl.1 rfl (lv_room (Nat.le_of_ble_eq_true rfl)) d_CS_hasListColouring_12 ⟨Nat.zero_le _, Nat.zero_le _⟩) hS (fun q _ h => hFc q h) hFc (fun u t H1 locs ht hvm hw hB hz1 hk1 hS => ?_)
  obtain ⟨hP1, hK1, hD1⟩ := hB
  rw [ht] at hP1
  obtain ⟨hP, hD⟩ := va_joinP (wr := [(a0, .inr (0, [.ref a0_net, .ref a0_painter, .ref a0_polynomial, .ref a0_listCounter, .ref a0_setFinder, .ref a0_takingApart, .ref a0_greedyRun, .ref a0_allowed, .ref a0_shown, .ref a0_shades, .ref a0_attempt]))]) (rx := (we_Pai_startLists cI cJ cG cZ a0_painter a0_net a0_allowed a0_painter_paint a0_painter_near a0_painter_free a0_painter_uses a0_net_near a0_net_tail a0_net_head r0_painter_free v0_painter_items_1 v0_painter_evenly_2 v0_painter_palette_3 v0_painter_share_4 v0_painter_bigger_5 v0_painter_bigNow_6 w0_painter_near_7 w0_painter_uses_8 v0_net_nodes v0_net_arcCount v0_net_version w0_net_near w0_allowed w0_painter_free_9)) hP hD [3, 4, 5, 6, 1, 2, 7] [0] rfl rfl (by decide) (by decide) hk1 hFc hP1 hD1
  have hP : va_P (dC, dI) vwCl (wd_CS_hasListColouring cI cJ cG cZ a0 a0_net a0_painter a0_polynomial a0_listCounter a0_setFinder a0_takingApart a0_greedyRun a0_allowed a0_shown a0_shades a0_attempt a0_net_near a0_net_tail a0_net_head a0_painter_paint a0_painter_near a0_painter_free a0_painter_uses r0_painter_free v0_net_nodes v0_net_arcCount v0_net_version w0_net_near v0_painter_items_1 v0_painter_evenly_2 v0_painter_palette_3 v0_painter_share_4 v0_painter_bigger_5 v0_painter_bigNow_6 w0_painter_near_7 w0_painter_uses_8 w0_allowed w0_painter_free_9) H1 := hP.part [0, 5, 6, 1, 2, 3, 4, 7] rfl
  have hD : va_D A (wd_CS_hasListColouring cI cJ cG cZ a0 a0_net a0_painter a0_polynomial a0_listCounter a0_setFinder a0_takingApart a0_greedyRun a0_allowed a0_shown a0_shades a0_attempt a0_net_near a0_net_tail a0_net_head a0_painter_paint a0_painter_near a0_painter_free a0_painter_uses r0_painter_free v0_net_nodes v0_net_arcCount v0_net_version w0_net_near v0_painter_items_1 v0_painter_evenly_2 v0_painter_palette_3 v0_painter_share_4 v0_painter_bigger_5 v0_painter_bigNow_6 w0_painter_near_7 w0_painter_uses_8 w0_allowed w0_painter_free_9) := hD.part [0, 5, 6, 1, 2, 3, 4, 7] (by decide) rfl
  clear hP1 hK1 hD1 hk1 hPc hDc hFc ht hvm hz1
  generalize H1 = H at hP hS ⊢
  refine lv_aload_n hx hb d_CS_hasListColouring_15 rfl (lv_at hl 0 rfl) ?_
  refine va_get (D := (dC, dI)) (ci := 0) (v := .ref a0_painter) (C := R_CS) (T := T_CS) (N := 11) hx hb htt hin_CS hown hK hP 0 rfl rfl 1 (by decide) (htt _ kt_225) (fun _ h9 => h9) rfl d_CS_hasListColouring_16 ?_
  refine lv_iload_n hx hb d_CS_hasListColouring_19 rfl (lv_at hl 1 rfl) ?_
  obtain ⟨⟨q_12, v0_painter_bigNow_13, w0_painter_uses_14, w0_painter_free_15⟩, hc_16, hm⟩ := gM_e hm
  dsimp only at hm
  have hPc : va_P (dC, dI) vwCl (wd_Pai_canPaint cI cJ cG cZ a0_painter a0_painter_paint a0_painter_near a0_painter_free a0_painter_uses r0_painter_free v0_painter_items_1 v0_painter_evenly_2 v0_painter_palette_3 v0_painter_share_4 v0_painter_bigger_5 v0_painter_bigNow_6 w0_painter_near_7 w0_painter_uses_8 w0_painter_free_9) H := hP.part [3, 4, 5, 6] rfl
  have hDc : va_D A (wd_Pai_canPaint cI cJ cG cZ a0_painter a0_painter_paint a0_painter_near a0_painter_free a0_painter_uses r0_painter_free v0_painter_items_1 v0_painter_evenly_2 v0_painter_palette_3 v0_painter_share_4 v0_painter_bigger_5 v0_painter_bigNow_6 w0_painter_near_7 w0_painter_uses_8 w0_painter_free_9) := hD.part [3, 4, 5, 6] (by decide) rfl
  have hFc : ∀ q, va_A (wd_Pai_canPaint cI cJ cG cZ a0_painter a0_painter_paint a0_painter_near a0_painter_free a0_painter_uses r0_painter_free v0_painter_items_1 v0_painter_evenly_2 v0_painter_palette_3 v0_painter_share_4 v0_painter_bigger_5 v0_painter_bigNow_6 w0_painter_near_7 w0_painter_uses_8 w0_painter_free_9) H.size q → A q := va_freeP hD hS hA [3, 4, 5, 6] rfl
  refine va_calli (va_runV (As := [.int p1]) (rest := []) ⟨hx, hb, hml, hown, htt⟩ (c_Pai_canPaint l dC dI cI cJ cG cZ a0_painter a0_painter_paint a0_painter_near a0_painter_free a0_painter_uses r0_painter_free H.size F v0_painter_items_1 v0_painter_evenly_2 v0_painter_palette_3 v0_painter_share_4 v0_painter_bigger_5 v0_painter_bigNow_6 w0_painter_near_7 w0_painter_uses_8 w0_painter_free_9 p1 q_12 v0_painter_bigNow_13 w0_painter_uses_14 w0_painter_free_15 hc_16) (cwV 1 htt (gdV kt_522 kt_523 kt_524 kt_3 kt_525) rfl rfl rfl (by decide +kernel) ⟨(Nat.le_of_ble_eq_true rfl), (Nat.le_of_ble_eq_true rfl)⟩) ⟨PcS_blind, va_recv hK hPc (ci := 2) (q0 := 0) rfl rfl, PcS_in hPc hK hDc hNw⟩ rfl rfl hl.1 rfl (lv_room (Nat.le_of_ble_eq_true rfl)) d_CS_hasListColouring_20 ⟨Nat.zero_le _, Nat.zero_le _⟩) hS (fun q _ h => hFc q h) hFc (fun r_18 u t H1 locs ht hvm hw hB hz1 hk1 hS => ?_)
  obtain ⟨hP1, hK1, hD1⟩ := hB
  rw [ht] at hP1
  obtain ⟨hw, hz_19⟩ := hw
  subst hw
  obtain ⟨hP, hD⟩ := va_joinP (wr := [(a0, .inr (0, [.ref a0_net, .ref a0_painter, .ref a0_polynomial, .ref a0_listCounter, .ref a0_setFinder, .ref a0_takingApart, .ref a0_greedyRun, .ref a0_allowed, .ref a0_shown, .ref a0_shades, .ref a0_attempt])), (a0_net, .inr (1, [.ref a0_net_near, .ref a0_net_tail, .ref a0_net_head, .int v0_net_nodes, .int v0_net_arcCount, .int v0_net_version])), (a0_net_near, .inl (cI, 12, .inl w0_net_near)), (a0_allowed, .inl (cI, 12, .inl w0_allowed))]) (rx := (we_Pai_canPaint cI cJ cG cZ a0_painter a0_painter_paint a0_painter_near a0_painter_free a0_painter_uses r0_painter_free v0_painter_items_1 v0_painter_evenly_2 v0_painter_palette_3 v0_painter_share_4 v0_painter_bigger_5 v0_painter_bigNow_13 w0_painter_near_7 w0_painter_uses_14 w0_painter_free_15)) hP hD [3, 4, 5, 6] [0, 1, 2, 7] rfl rfl (by decide) (by decide) hk1 hFc hP1 hD1
  have hP : va_P (dC, dI) vwCl (wd_CS_hasListColouring cI cJ cG cZ a0 a0_net a0_painter a0_polynomial a0_listCounter a0_setFinder a0_takingApart a0_greedyRun a0_allowed a0_shown a0_shades a0_attempt a0_net_near a0_net_tail a0_net_head a0_painter_paint a0_painter_near a0_painter_free a0_painter_uses r0_painter_free v0_net_nodes v0_net_arcCount v0_net_version w0_net_near v0_painter_items_1 v0_painter_evenly_2 v0_painter_palette_3 v0_painter_share_4 v0_painter_bigger_5 v0_painter_bigNow_13 w0_painter_near_7 w0_painter_uses_14 w0_allowed w0_painter_free_15) H1 := hP.part [0, 1, 2, 4, 5, 6, 7, 3] rfl
  have hD : va_D A (wd_CS_hasListColouring cI cJ cG cZ a0 a0_net a0_painter a0_polynomial a0_listCounter a0_setFinder a0_takingApart a0_greedyRun a0_allowed a0_shown a0_shades a0_attempt a0_net_near a0_net_tail a0_net_head a0_painter_paint a0_painter_near a0_painter_free a0_painter_uses r0_painter_free v0_net_nodes v0_net_arcCount v0_net_version w0_net_near v0_painter_items_1 v0_painter_evenly_2 v0_painter_palette_3 v0_painter_share_4 v0_painter_bigger_5 v0_painter_bigNow_13 w0_painter_near_7 w0_painter_uses_14 w0_allowed w0_painter_free_15) := hD.part [0, 1, 2, 4, 5, 6, 7, 3] (by decide) rfl
  clear hP1 hK1 hD1 hk1 hPc hDc hFc ht hvm hz1
  generalize H1 = H at hP hS ⊢
  cases hm
  exact W.zret (ty := .boolean) hx hb hr (bz_nar hz_19) (fun t ht hW => ⟨⟨_, (), rfl, ⟨rfl, hz_19⟩, by rw [ht]; exact hP, va_K.moved hW.alike hK, hD⟩, hS.F ht⟩) hS.2.2 d_CS_hasListColouring_23
theorem d_CS_why_0 : decode prog_1_method_13_code 0 = .ok (.aload_n 0, 1) := by decide +kernel
theorem d_CS_why_1 : decode prog_1_method_13_code 1 = .ok (.getfield 12, 3) := by decide +kernel
theorem d_CS_why_4 : decode prog_1_method_13_code 4 = .ok (.invokevirtual 138, 3) := by decide +kernel
theorem d_CS_why_7 : decode prog_1_method_13_code 7 = .ok (.istore_n 1, 1) := by decide +kernel
theorem d_CS_why_8 : decode prog_1_method_13_code 8 = .ok (.aload_n 0, 1) := by decide +kernel
theorem d_CS_why_9 : decode prog_1_method_13_code 9 = .ok (.iload_n 1, 1) := by decide +kernel
theorem d_CS_why_10 : decode prog_1_method_13_code 10 = .ok (.invokevirtual 141, 3) := by decide +kernel
theorem d_CS_why_13 : decode prog_1_method_13_code 13 = .ok (.ifCond .eq 5, 3) := by decide +kernel
theorem d_CS_why_16 : decode prog_1_method_13_code 16 = .ok (.iconst 0, 1) := by decide +kernel
theorem d_CS_why_17 : decode prog_1_method_13_code 17 = .ok (.ireturn, 1) := by decide +kernel
theorem d_CS_why_18 : decode prog_1_method_13_code 18 = .ok (.aload_n 0, 1) := by decide +kernel
theorem d_CS_why_19 : decode prog_1_method_13_code 19 = .ok (.getfield 12, 3) := by decide +kernel
theorem d_CS_why_22 : decode prog_1_method_13_code 22 = .ok (.getfield 77, 3) := by decide +kernel
theorem d_CS_why_25 : decode prog_1_method_13_code 25 = .ok (.iconst 1, 1) := by decide +kernel
theorem d_CS_why_26 : decode prog_1_method_13_code 26 = .ok (.isub, 1) := by decide +kernel
theorem d_CS_why_27 : decode prog_1_method_13_code 27 = .ok (.istore_n 2, 1) := by decide +kernel
theorem d_CS_why_28 : decode prog_1_method_13_code 28 = .ok (.iload_n 2, 1) := by decide +kernel
theorem d_CS_why_29 : decode prog_1_method_13_code 29 = .ok (.ifCond .lt 27, 3) := by decide +kernel
theorem d_CS_why_32 : decode prog_1_method_13_code 32 = .ok (.iload_n 1, 1) := by decide +kernel
theorem d_CS_why_33 : decode prog_1_method_13_code 33 = .ok (.iconst 1, 1) := by decide +kernel
theorem d_CS_why_34 : decode prog_1_method_13_code 34 = .ok (.iload_n 2, 1) := by decide +kernel
theorem d_CS_why_35 : decode prog_1_method_13_code 35 = .ok (.ishl, 1) := by decide +kernel
theorem d_CS_why_36 : decode prog_1_method_13_code 36 = .ok (.iconst (-1), 1) := by decide +kernel
theorem d_CS_why_37 : decode prog_1_method_13_code 37 = .ok (.ixor, 1) := by decide +kernel
theorem d_CS_why_38 : decode prog_1_method_13_code 38 = .ok (.iand, 1) := by decide +kernel
theorem d_CS_why_39 : decode prog_1_method_13_code 39 = .ok (.istore_n 3, 1) := by decide +kernel
theorem d_CS_why_40 : decode prog_1_method_13_code 40 = .ok (.aload_n 0, 1) := by decide +kernel
theorem d_CS_why_41 : decode prog_1_method_13_code 41 = .ok (.iload_n 3, 1) := by decide +kernel
theorem d_CS_why_42 : decode prog_1_method_13_code 42 = .ok (.invokevirtual 141, 3) := by decide +kernel
theorem d_CS_why_45 : decode prog_1_method_13_code 45 = .ok (.ifCond .ne 5, 3) := by decide +kernel
theorem d_CS_why_48 : decode prog_1_method_13_code 48 = .ok (.iload_n 3, 1) := by decide +kernel
theorem d_CS_why_49 : decode prog_1_method_13_code 49 = .ok (.istore_n 1, 1) := by decide +kernel
theorem d_CS_why_50 : decode prog_1_method_13_code 50 = .ok (.iinc 2 (-1), 3) := by decide +kernel
theorem d_CS_why_53 : decode prog_1_method_13_code 53 = .ok (.goto (-25), 3) := by decide +kernel
theorem d_CS_why_56 : decode prog_1_method_13_code 56 = .ok (.iload_n 1, 1) := by decide +kernel
theorem d_CS_why_57 : decode prog_1_method_13_code 57 = .ok (.ireturn, 1) := by decide +kernel
abbrev wd_CS_why (cI cJ cG cZ : ClassId) (a0 a0_net a0_painter a0_polynomial a0_listCounter a0_setFinder a0_takingApart a0_greedyRun a0_allowed a0_shown a0_shades a0_attempt a0_net_near a0_net_tail a0_net_head a0_painter_paint a0_painter_near a0_painter_free a0_painter_uses : Nat) (r0_painter_free : Nat → Nat) (v0_net_nodes : Int32) (v0_net_arcCount : Int32) (v0_net_version : Int32) (w0_net_near : Nat → Int32) (v0_painter_items : Int32) (v0_painter_evenly : Int32) (v0_painter_palette : Int32) (v0_painter_share : Int32) (v0_painter_bigger : Int32) (v0_painter_bigNow : Int32) (w0_painter_near : Nat → Int32) (w0_painter_uses : Nat → Int32) (w0_allowed : Nat → Int32) (w0_painter_free : Nat → Nat → Int32) : va_W := [(a0, .inr (0, [.ref a0_net, .ref a0_painter, .ref a0_polynomial, .ref a0_listCounter, .ref a0_setFinder, .ref a0_takingApart, .ref a0_greedyRun, .ref a0_allowed, .ref a0_shown, .ref a0_shades, .ref a0_attempt])), (a0_net, .inr (1, [.ref a0_net_near, .ref a0_net_tail, .ref a0_net_head, .int v0_net_nodes, .int v0_net_arcCount, .int v0_net_version])), (a0_net_near, .inl (cI, 12, .inl w0_net_near)), (a0_painter, .inr (2, [.ref a0_painter_paint, .ref a0_painter_near, .ref a0_painter_free, .ref a0_painter_uses, .int v0_painter_items, .int v0_painter_evenly, .int v0_painter_palette, .int v0_painter_share, .int v0_painter_bigger, .int v0_painter_bigNow])), (a0_painter_near, .inl (cI, 16, .inl w0_painter_near)), (a0_painter_free, .inl (cG, 18, .inr (.inr (.inr (.inr (gO r0_painter_free 18)))))), (a0_painter_uses, .inl (cI, 12, .inl w0_painter_uses)), (a0_allowed, .inl (cI, 12, .inl w0_allowed))] ++ rowsW r0_painter_free cI 16 18 w0_painter_free
abbrev we_CS_why (cI cJ cG cZ : ClassId) (a0 a0_net a0_painter a0_polynomial a0_listCounter a0_setFinder a0_takingApart a0_greedyRun a0_allowed a0_shown a0_shades a0_attempt a0_net_near a0_net_tail a0_net_head a0_painter_paint a0_painter_near a0_painter_free a0_painter_uses : Nat) (r0_painter_free : Nat → Nat) (v0_net_nodes : Int32) (v0_net_arcCount : Int32) (v0_net_version : Int32) (w0_net_near : Nat → Int32) (v0_painter_items : Int32) (v0_painter_evenly : Int32) (v0_painter_palette : Int32) (v0_painter_share : Int32) (v0_painter_bigger : Int32) (v0_painter_bigNow : Int32) (w0_painter_near : Nat → Int32) (w0_painter_uses : Nat → Int32) (w0_allowed : Nat → Int32) (w0_painter_free : Nat → Nat → Int32) : va_W := [(a0, .inr (0, [.ref a0_net, .ref a0_painter, .ref a0_polynomial, .ref a0_listCounter, .ref a0_setFinder, .ref a0_takingApart, .ref a0_greedyRun, .ref a0_allowed, .ref a0_shown, .ref a0_shades, .ref a0_attempt])), (a0_net, .inr (1, [.ref a0_net_near, .ref a0_net_tail, .ref a0_net_head, .int v0_net_nodes, .int v0_net_arcCount, .int v0_net_version])), (a0_net_near, .inl (cI, 12, .inl w0_net_near)), (a0_painter, .inr (2, [.ref a0_painter_paint, .ref a0_painter_near, .ref a0_painter_free, .ref a0_painter_uses, .int v0_painter_items, .int v0_painter_evenly, .int v0_painter_palette, .int v0_painter_share, .int v0_painter_bigger, .int v0_painter_bigNow])), (a0_painter_near, .inl (cI, 16, .inl w0_painter_near)), (a0_painter_free, .inl (cG, 18, .inr (.inr (.inr (.inr (gO r0_painter_free 18)))))), (a0_painter_uses, .inl (cI, 12, .inl w0_painter_uses)), (a0_allowed, .inl (cI, 12, .inl w0_allowed))]
abbrev us_CS_why : List Cond := .code y_CS_why prog_1_method_13_code 4 (some .int) :: gtbl
abbrev rm_CS_why : Room := { frames := 23, cells := 0, slots := 0, locals := 643 }
def m_CS_why (F : Nat) (v0_net_nodes : Int32) (v0_net_arcCount : Int32) (v0_net_version : Int32) (w0_net_near : Nat → Int32) (v0_painter_items : Int32) (v0_painter_evenly : Int32) (v0_painter_palette : Int32) (v0_painter_share : Int32) (v0_painter_bigger : Int32) (v0_painter_bigNow : Int32) (w0_painter_near : Nat → Int32) (w0_painter_uses : Nat → Int32) (w0_allowed : Nat → Int32) (w0_painter_free : Nat → Nat → Int32) : Option (Int32 × Int32 × Int32 × Int32 × Int32 × Int32 × Int32 × (Nat → Int32) × (Nat → Int32) × (Nat → Nat → Int32)) :=
  gM (m_Net_everyNode F v0_net_nodes v0_net_arcCount v0_net_version) (fun q_1 =>
  gM (m_CS_hasListColouring F v0_net_nodes v0_net_arcCount v0_net_version w0_net_near v0_painter_items v0_painter_evenly v0_painter_palette v0_painter_share v0_painter_bigger v0_painter_bigNow w0_painter_near w0_painter_uses w0_allowed w0_painter_free q_1) (fun (z_15 : Int32 × Int32 × Int32 × Int32 × Int32 × Int32 × Int32 × (Nat → Int32) × (Nat → Int32) × (Nat → Nat → Int32)) => match z_15 with
  | (q_4, v0_painter_items_5, v0_painter_evenly_6, v0_painter_palette_7, v0_painter_share_8, v0_painter_bigger_9, v0_painter_bigNow_10, w0_painter_near_11, w0_painter_uses_12, w0_painter_free_13) =>
  if q_4 = 0 then (
    gB (v0_net_nodes - 1) (fun x2_19 =>
    gL (fun (k_28 : (Int32 × Int32 × Int32 × Int32 × Int32 × Int32 × Int32 × Int32 × (Nat → Int32) × (Nat → Int32) × (Nat → Nat → Int32)) → Option (Int32 × Int32 × Int32 × Int32 × Int32 × Int32 × Int32 × (Nat → Int32) × (Nat → Int32) × (Nat → Nat → Int32))) (z_28 : Int32 × Int32 × Int32 × Int32 × Int32 × Int32 × Int32 × Int32 × (Nat → Int32) × (Nat → Int32) × (Nat → Nat → Int32)) => match z_28 with
    | (x1_20, x2_21, v0_painter_items_22, v0_painter_evenly_23, v0_painter_palette_24, v0_painter_share_25, v0_painter_bigger_26, v0_painter_bigNow_27, w0_painter_near_28, w0_painter_uses_29, w0_painter_free_30) =>
    if x2_21 < 0 then (
      some (x1_20, v0_painter_items_22, v0_painter_evenly_23, v0_painter_palette_24, v0_painter_share_25, v0_painter_bigger_26, v0_painter_bigNow_27, w0_painter_near_28, w0_painter_uses_29, w0_painter_free_30)
    ) else (
      gB (x1_20 &&& (((1 : Int32) <<< (x2_21 &&& 31)) ^^^ (-1))) (fun x3_32 =>
      gM (m_CS_hasListColouring F v0_net_nodes v0_net_arcCount v0_net_version w0_net_near v0_painter_items_22 v0_painter_evenly_23 v0_painter_palette_24 v0_painter_share_25 v0_painter_bigger_26 v0_painter_bigNow_27 w0_painter_near_28 w0_painter_uses_29 w0_allowed w0_painter_free_30 x3_32) (fun (z_44 : Int32 × Int32 × Int32 × Int32 × Int32 × Int32 × Int32 × (Nat → Int32) × (Nat → Int32) × (Nat → Nat → Int32)) => match z_44 with
      | (q_33, v0_painter_items_34, v0_painter_evenly_35, v0_painter_palette_36, v0_painter_share_37, v0_painter_bigger_38, v0_painter_bigNow_39, w0_painter_near_40, w0_painter_uses_41, w0_painter_free_42) =>
      if q_33 = 0 then (
        gB (x2_21 + (-1)) (fun x2_49 =>
        k_28 (x3_32, x2_49, v0_painter_items_34, v0_painter_evenly_35, v0_painter_palette_36, v0_painter_share_37, v0_painter_bigger_38, v0_painter_bigNow_39, w0_painter_near_40, w0_painter_uses_41, w0_painter_free_42))
      ) else (
        gB (x2_21 + (-1)) (fun x2_48 =>
        k_28 (x1_20, x2_48, v0_painter_items_34, v0_painter_evenly_35, v0_painter_palette_36, v0_painter_share_37, v0_painter_bigger_38, v0_painter_bigNow_39, w0_painter_near_40, w0_painter_uses_41, w0_painter_free_42))
      )))
    )
    ) F (q_1, x2_19, v0_painter_items_5, v0_painter_evenly_6, v0_painter_palette_7, v0_painter_share_8, v0_painter_bigger_9, v0_painter_bigNow_10, w0_painter_near_11, w0_painter_uses_12, w0_painter_free_13))
  ) else (
    some (0, v0_painter_items_5, v0_painter_evenly_6, v0_painter_palette_7, v0_painter_share_8, v0_painter_bigger_9, v0_painter_bigNow_10, w0_painter_near_11, w0_painter_uses_12, w0_painter_free_13)
  )))
set_option maxHeartbeats 4000000 in
set_option maxRecDepth 100000 in
theorem c_CS_why (l : Launch) (dC : Nat → ClassId) (dI : Nat → Nat → Nat) (cI cJ cG cZ : ClassId) (a0 a0_net a0_painter a0_polynomial a0_listCounter a0_setFinder a0_takingApart a0_greedyRun a0_allowed a0_shown a0_shades a0_attempt a0_net_near a0_net_tail a0_net_head a0_painter_paint a0_painter_near a0_painter_free a0_painter_uses : Nat) (r0_painter_free : Nat → Nat) (sz : Nat) (F : Nat) (v0_net_nodes : Int32) (v0_net_arcCount : Int32) (v0_net_version : Int32) (w0_net_near : Nat → Int32) (v0_painter_items : Int32) (v0_painter_evenly : Int32) (v0_painter_palette : Int32) (v0_painter_share : Int32) (v0_painter_bigger : Int32) (v0_painter_bigNow : Int32) (w0_painter_near : Nat → Int32) (w0_painter_uses : Nat → Int32) (w0_allowed : Nat → Int32) (w0_painter_free : Nat → Nat → Int32) (ret : Int32) (o_v0_painter_items : Int32) (o_v0_painter_evenly : Int32) (o_v0_painter_palette : Int32) (o_v0_painter_share : Int32) (o_v0_painter_bigger : Int32) (o_v0_painter_bigNow : Int32) (o_w0_painter_near : Nat → Int32) (o_w0_painter_uses : Nat → Int32) (o_w0_painter_free : Nat → Nat → Int32) (hm : m_CS_why F v0_net_nodes v0_net_arcCount v0_net_version w0_net_near v0_painter_items v0_painter_evenly v0_painter_palette v0_painter_share v0_painter_bigger v0_painter_bigNow w0_painter_near w0_painter_uses w0_allowed w0_painter_free = some (ret, o_v0_painter_items, o_v0_painter_evenly, o_v0_painter_palette, o_v0_painter_share, o_v0_painter_bigger, o_v0_painter_bigNow, o_w0_painter_near, o_w0_painter_uses, o_w0_painter_free)) : Met l y_CS_why us_CS_why rm_CS_why (PcS (dC, dI) (tyL cI cJ cG cZ) [.ref a0] sz (wd_CS_why cI cJ cG cZ a0 a0_net a0_painter a0_polynomial a0_listCounter a0_setFinder a0_takingApart a0_greedyRun a0_allowed a0_shown a0_shades a0_attempt a0_net_near a0_net_tail a0_net_head a0_painter_paint a0_painter_near a0_painter_free a0_painter_uses r0_painter_free v0_net_nodes v0_net_arcCount v0_net_version w0_net_near v0_painter_items v0_painter_evenly v0_painter_palette v0_painter_share v0_painter_bigger v0_painter_bigNow w0_painter_near w0_painter_uses w0_allowed w0_painter_free)) (va_Qi (fun (r : Int32) (_ : Unit) => ret = r) (fun _ t => PoS (dC, dI) (tyL cI cJ cG cZ) (wd_CS_why cI cJ cG cZ a0 a0_net a0_painter a0_polynomial a0_listCounter a0_setFinder a0_takingApart a0_greedyRun a0_allowed a0_shown a0_shades a0_attempt a0_net_near a0_net_tail a0_net_head a0_painter_paint a0_painter_near a0_painter_free a0_painter_uses r0_painter_free v0_net_nodes v0_net_arcCount v0_net_version w0_net_near o_v0_painter_items o_v0_painter_evenly o_v0_painter_palette o_v0_painter_share o_v0_painter_bigger o_v0_painter_bigNow o_w0_painter_near o_w0_painter_uses w0_allowed o_w0_painter_free) (va_A (wd_CS_why cI cJ cG cZ a0 a0_net a0_painter a0_polynomial a0_listCounter a0_setFinder a0_takingApart a0_greedyRun a0_allowed a0_shown a0_shades a0_attempt a0_net_near a0_net_tail a0_net_head a0_painter_paint a0_painter_near a0_painter_free a0_painter_uses r0_painter_free v0_net_nodes v0_net_arcCount v0_net_version w0_net_near v0_painter_items v0_painter_evenly v0_painter_palette v0_painter_share v0_painter_bigger v0_painter_bigNow w0_painter_near w0_painter_uses w0_allowed w0_painter_free) sz) t) (va_A (wd_CS_why cI cJ cG cZ a0 a0_net a0_painter a0_polynomial a0_listCounter a0_setFinder a0_takingApart a0_greedyRun a0_allowed a0_shown a0_shades a0_attempt a0_net_near a0_net_tail a0_net_head a0_painter_paint a0_painter_near a0_painter_free a0_painter_uses r0_painter_free v0_net_nodes v0_net_arcCount v0_net_version w0_net_near v0_painter_items v0_painter_evenly v0_painter_palette v0_painter_share v0_painter_bigger v0_painter_bigNow w0_painter_near w0_painter_uses w0_allowed w0_painter_free) sz)) 0 0 (va_A (wd_CS_why cI cJ cG cZ a0 a0_net a0_painter a0_polynomial a0_listCounter a0_setFinder a0_takingApart a0_greedyRun a0_allowed a0_shown a0_shades a0_attempt a0_net_near a0_net_tail a0_net_head a0_painter_paint a0_painter_near a0_painter_free a0_painter_uses r0_painter_free v0_net_nodes v0_net_arcCount v0_net_version w0_net_near v0_painter_items v0_painter_evenly v0_painter_palette v0_painter_share v0_painter_bigger v0_painter_bigNow w0_painter_near w0_painter_uses w0_allowed w0_painter_free) sz) := by
  refine Met.ofW (cc := prog_1_method_13_code) (maxL := 4) (ret := (some .int)) (by decide) rfl ?_
  intro p e s m args below meth c s₁ B hml hv
  obtain ⟨rfl, hsz, hP, hK, hD0, hNw⟩ := hv
  have hx := B.exec
  have hb := B.bytes
  have hr := B.returns
  have htt : ∀ w ∈ gtbl, w.before _ s = true := fun w h => atoms_spec (ws := us_CS_why) B.pre w (List.mem_cons_of_mem _ h)
  have hown : s.vm.findClass R_CS = some m.cls := findClass_of_methodNamed B.named
  have hlocks := B.notSynchronized
  subst hsz
  have hD := hD0.self (sz := s.heap.size)
  generalize hAe : va_A (wd_CS_why cI cJ cG cZ a0 a0_net a0_painter a0_polynomial a0_listCounter a0_setFinder a0_takingApart a0_greedyRun a0_allowed a0_shown a0_shades a0_attempt a0_net_near a0_net_tail a0_net_head a0_painter_paint a0_painter_near a0_painter_free a0_painter_uses r0_painter_free v0_net_nodes v0_net_arcCount v0_net_version w0_net_near v0_painter_items v0_painter_evenly v0_painter_palette v0_painter_share v0_painter_bigger v0_painter_bigNow w0_painter_near w0_painter_uses w0_allowed w0_painter_free) s.heap.size = A at hD ⊢
  have hA : ∀ q : Nat, s.heap.size ≤ q → A q := fun q h => by rw [← hAe]; exact Or.inr h
  clear hAe hD0
  have hS : va_S A s.heap s.heap [] := va_S.rf
  have hl := lv_entry ([.ref a0]) (n := 4) (Nat.le_of_ble_eq_true rfl)
  rw [lg_entry_eq]
  generalize (lg_sl ([.ref a0]) ++ List.replicate (4 - (lg_sl ([.ref a0])).length) Slot.unset).toArray = ls at hl ⊢
  have hl : lv_has ls 4 [(0, .ref a0)] := hl
  generalize hH : s.heap = H at hP ⊢
  have hS : va_S A s.heap H [] := hH ▸ hS
  generalize hLo : ([] : List Loc) = locs at hS ⊢
  clear hH hLo
  unfold m_CS_why at hm
  refine lv_aload_n hx hb d_CS_why_0 rfl (lv_at hl 0 rfl) ?_
  refine va_get (D := (dC, dI)) (ci := 0) (v := .ref a0_net) (C := R_CS) (T := T_CS) (N := 11) hx hb htt hin_CS hown hK hP 0 rfl rfl 0 (by decide) (htt _ kt_224) (fun _ h9 => h9) rfl d_CS_why_1 ?_
  obtain ⟨q_1, hc_2, hm⟩ := gM_e hm
  have hPc : va_P (dC, dI) vwCl (wd_Net_everyNode cI cJ cG cZ a0_net a0_net_near a0_net_tail a0_net_head v0_net_nodes v0_net_arcCount v0_net_version) H := hP.sub [1] rfl
  have hDc : va_D A (wd_Net_everyNode cI cJ cG cZ a0_net a0_net_near a0_net_tail a0_net_head v0_net_nodes v0_net_arcCount v0_net_version) := hD.sub [1] (by decide) rfl
  have hFc : ∀ q, va_A (wd_Net_everyNode cI cJ cG cZ a0_net a0_net_near a0_net_tail a0_net_head v0_net_nodes v0_net_arcCount v0_net_version) H.size q → A q := va_free hD hS hA [1] rfl
  refine va_calli (va_runV (As := []) (rest := []) ⟨hx, hb, hml, hown, htt⟩ (c_Net_everyNode l dC dI cI cJ cG cZ a0_net a0_net_near a0_net_tail a0_net_head H.size F v0_net_nodes v0_net_arcCount v0_net_version q_1 hc_2) (cwV 0 htt (gdV kt_517 kt_400 kt_401 kt_2 kt_402) rfl rfl rfl (by decide +kernel) ⟨(Nat.le_of_ble_eq_true rfl), (Nat.le_of_ble_eq_true rfl)⟩) ⟨PcS_blind, va_recv hK hPc (ci := 1) (q0 := 0) rfl rfl, PcS_in hPc hK hDc hNw⟩ rfl rfl hl.1 rfl (lv_room (Nat.le_of_ble_eq_true rfl)) d_CS_why_4 ⟨Nat.zero_le _, Nat.zero_le _⟩) hS (fun q _ h => hFc q h) hFc (fun r_3 u t H1 locs ht hvm hw hB hz1 hk1 hS => ?_)
  obtain ⟨hP1, hK1, hD1⟩ := hB
  rw [ht] at hP1
  subst hw
  obtain ⟨hP, hD⟩ := va_joinQ (wr := [(a0, .inr (0, [.ref a0_net, .ref a0_painter, .ref a0_polynomial, .ref a0_listCounter, .ref a0_setFinder, .ref a0_takingApart, .ref a0_greedyRun, .ref a0_allowed, .ref a0_shown, .ref a0_shades, .ref a0_attempt])), (a0_net_near, .inl (cI, 12, .inl w0_net_near)), (a0_painter, .inr (2, [.ref a0_painter_paint, .ref a0_painter_near, .ref a0_painter_free, .ref a0_painter_uses, .int v0_painter_items, .int v0_painter_evenly, .int v0_painter_palette, .int v0_painter_share, .int v0_painter_bigger, .int v0_painter_bigNow])), (a0_painter_near, .inl (cI, 16, .inl w0_painter_near)), (a0_painter_free, .inl (cG, 18, .inr (.inr (.inr (.inr (gO r0_painter_free 18)))))), (a0_painter_uses, .inl (cI, 12, .inl w0_painter_uses)), (a0_allowed, .inl (cI, 12, .inl w0_allowed))]) (w1 := (wd_Net_everyNode cI cJ cG cZ a0_net a0_net_near a0_net_tail a0_net_head v0_net_nodes v0_net_arcCount v0_net_version)) hP hD [1] [0, 2, 3, 4, 5, 6, 7] rfl rfl (by decide) (by decide) hk1 hFc hP1 hD1
  have hP : va_P (dC, dI) vwCl (wd_CS_why cI cJ cG cZ a0 a0_net a0_painter a0_polynomial a0_listCounter a0_setFinder a0_takingApart a0_greedyRun a0_allowed a0_shown a0_shades a0_attempt a0_net_near a0_net_tail a0_net_head a0_painter_paint a0_painter_near a0_painter_free a0_painter_uses r0_painter_free v0_net_nodes v0_net_arcCount v0_net_version w0_net_near v0_painter_items v0_painter_evenly v0_painter_palette v0_painter_share v0_painter_bigger v0_painter_bigNow w0_painter_near w0_painter_uses w0_allowed w0_painter_free) H1 := hP.part [0, 7, 1, 2, 3, 4, 5, 6] rfl
  have hD : va_D A (wd_CS_why cI cJ cG cZ a0 a0_net a0_painter a0_polynomial a0_listCounter a0_setFinder a0_takingApart a0_greedyRun a0_allowed a0_shown a0_shades a0_attempt a0_net_near a0_net_tail a0_net_head a0_painter_paint a0_painter_near a0_painter_free a0_painter_uses r0_painter_free v0_net_nodes v0_net_arcCount v0_net_version w0_net_near v0_painter_items v0_painter_evenly v0_painter_palette v0_painter_share v0_painter_bigger v0_painter_bigNow w0_painter_near w0_painter_uses w0_allowed w0_painter_free) := hD.part [0, 7, 1, 2, 3, 4, 5, 6] (by decide) rfl
  clear hP1 hK1 hD1 hk1 hPc hDc hFc ht hvm hz1
  generalize H1 = H at hP hS ⊢
  refine lv_istore_n (lv' := [(1, .int q_1), (0, .ref a0)]) hx hb d_CS_why_7 rfl hl (by decide) rfl (fun ls hl => ?_)
  refine lv_aload_n hx hb d_CS_why_8 rfl (lv_at hl 1 rfl) ?_
  refine lv_iload_n hx hb d_CS_why_9 rfl (lv_at hl 0 rfl) ?_
  obtain ⟨⟨q_4, v0_painter_items_5, v0_painter_evenly_6, v0_painter_palette_7, v0_painter_share_8, v0_painter_bigger_9, v0_painter_bigNow_10, w0_painter_near_11, w0_painter_uses_12, w0_painter_free_13⟩, hc_14, hm⟩ := gM_e hm
  dsimp only at hm
  have hPc : va_P (dC, dI) vwCl (wd_CS_hasListColouring cI cJ cG cZ a0 a0_net a0_painter a0_polynomial a0_listCounter a0_setFinder a0_takingApart a0_greedyRun a0_allowed a0_shown a0_shades a0_attempt a0_net_near a0_net_tail a0_net_head a0_painter_paint a0_painter_near a0_painter_free a0_painter_uses r0_painter_free v0_net_nodes v0_net_arcCount v0_net_version w0_net_near v0_painter_items v0_painter_evenly v0_painter_palette v0_painter_share v0_painter_bigger v0_painter_bigNow w0_painter_near w0_painter_uses w0_allowed w0_painter_free) H := hP.part [0, 1, 2, 3, 4, 5, 6, 7] rfl
  have hDc : va_D A (wd_CS_hasListColouring cI cJ cG cZ a0 a0_net a0_painter a0_polynomial a0_listCounter a0_setFinder a0_takingApart a0_greedyRun a0_allowed a0_shown a0_shades a0_attempt a0_net_near a0_net_tail a0_net_head a0_painter_paint a0_painter_near a0_painter_free a0_painter_uses r0_painter_free v0_net_nodes v0_net_arcCount v0_net_version w0_net_near v0_painter_items v0_painter_evenly v0_painter_palette v0_painter_share v0_painter_bigger v0_painter_bigNow w0_painter_near w0_painter_uses w0_allowed w0_painter_free) := hD.part [0, 1, 2, 3, 4, 5, 6, 7] (by decide) rfl
  have hFc : ∀ q, va_A (wd_CS_hasListColouring cI cJ cG cZ a0 a0_net a0_painter a0_polynomial a0_listCounter a0_setFinder a0_takingApart a0_greedyRun a0_allowed a0_shown a0_shades a0_attempt a0_net_near a0_net_tail a0_net_head a0_painter_paint a0_painter_near a0_painter_free a0_painter_uses r0_painter_free v0_net_nodes v0_net_arcCount v0_net_version w0_net_near v0_painter_items v0_painter_evenly v0_painter_palette v0_painter_share v0_painter_bigger v0_painter_bigNow w0_painter_near w0_painter_uses w0_allowed w0_painter_free) H.size q → A q := va_freeP hD hS hA [0, 1, 2, 3, 4, 5, 6, 7] rfl
  refine va_calli (va_runV (As := [.int q_1]) (rest := []) ⟨hx, hb, hml, hown, htt⟩ (c_CS_hasListColouring l dC dI cI cJ cG cZ a0 a0_net a0_painter a0_polynomial a0_listCounter a0_setFinder a0_takingApart a0_greedyRun a0_allowed a0_shown a0_shades a0_attempt a0_net_near a0_net_tail a0_net_head a0_painter_paint a0_painter_near a0_painter_free a0_painter_uses r0_painter_free H.size F v0_net_nodes v0_net_arcCount v0_net_version w0_net_near v0_painter_items v0_painter_evenly v0_painter_palette v0_painter_share v0_painter_bigger v0_painter_bigNow w0_painter_near w0_painter_uses w0_allowed w0_painter_free q_1 q_4 v0_painter_items_5 v0_painter_evenly_6 v0_painter_palette_7 v0_painter_share_8 v0_painter_bigger_9 v0_painter_bigNow_10 w0_painter_near_11 w0_painter_uses_12 w0_painter_free_13 hc_14) (cwV 1 htt (gdV kt_518 kt_520 kp_31 kt_1 kt_521) rfl rfl rfl (by decide +kernel) ⟨(Nat.le_of_ble_eq_true rfl), (Nat.le_of_ble_eq_true rfl)⟩) ⟨PcS_blind, va_recv hK hPc (ci := 0) (q0 := 0) rfl rfl, PcS_in hPc hK hDc hNw⟩ rfl rfl hl.1 rfl (lv_room (Nat.le_of_ble_eq_true rfl)) d_CS_why_10 ⟨Nat.zero_le _, Nat.zero_le _⟩) hS (fun q _ h => hFc q h) hFc (fun r_16 u t H1 locs ht hvm hw hB hz1 hk1 hS => ?_)
  obtain ⟨hP1, hK1, hD1⟩ := hB
  rw [ht] at hP1
  obtain ⟨hw, hz_17⟩ := hw
  subst hw
  obtain ⟨hP, hD⟩ := va_joinP (wr := []) (rx := (we_CS_hasListColouring cI cJ cG cZ a0 a0_net a0_painter a0_polynomial a0_listCounter a0_setFinder a0_takingApart a0_greedyRun a0_allowed a0_shown a0_shades a0_attempt a0_net_near a0_net_tail a0_net_head a0_painter_paint a0_painter_near a0_painter_free a0_painter_uses r0_painter_free v0_net_nodes v0_net_arcCount v0_net_version w0_net_near v0_painter_items_5 v0_painter_evenly_6 v0_painter_palette_7 v0_painter_share_8 v0_painter_bigger_9 v0_painter_bigNow_10 w0_painter_near_11 w0_painter_uses_12 w0_allowed w0_painter_free_13)) hP hD [0, 1, 2, 3, 4, 5, 6, 7] [] rfl rfl (by decide) (by decide) hk1 hFc hP1 hD1
  have hP : va_P (dC, dI) vwCl (wd_CS_why cI cJ cG cZ a0 a0_net a0_painter a0_polynomial a0_listCounter a0_setFinder a0_takingApart a0_greedyRun a0_allowed a0_shown a0_shades a0_attempt a0_net_near a0_net_tail a0_net_head a0_painter_paint a0_painter_near a0_painter_free a0_painter_uses r0_painter_free v0_net_nodes v0_net_arcCount v0_net_version w0_net_near v0_painter_items_5 v0_painter_evenly_6 v0_painter_palette_7 v0_painter_share_8 v0_painter_bigger_9 v0_painter_bigNow_10 w0_painter_near_11 w0_painter_uses_12 w0_allowed w0_painter_free_13) H1 := hP.part [0, 1, 2, 3, 4, 5, 6, 7] rfl
  have hD : va_D A (wd_CS_why cI cJ cG cZ a0 a0_net a0_painter a0_polynomial a0_listCounter a0_setFinder a0_takingApart a0_greedyRun a0_allowed a0_shown a0_shades a0_attempt a0_net_near a0_net_tail a0_net_head a0_painter_paint a0_painter_near a0_painter_free a0_painter_uses r0_painter_free v0_net_nodes v0_net_arcCount v0_net_version w0_net_near v0_painter_items_5 v0_painter_evenly_6 v0_painter_palette_7 v0_painter_share_8 v0_painter_bigger_9 v0_painter_bigNow_10 w0_painter_near_11 w0_painter_uses_12 w0_allowed w0_painter_free_13) := hD.part [0, 1, 2, 3, 4, 5, 6, 7] (by decide) rfl
  clear hP1 hK1 hD1 hk1 hPc hDc hFc ht hvm hz1
  generalize H1 = H at hP hS ⊢
  refine lv_if_eq (tgt := 18) hx hb d_CS_why_13 (by decide) (fun c_18 => ?_) (fun c_18 => ?_)
  · have hm := ite_t c_18 hm
    refine lv_aload_n hx hb d_CS_why_18 rfl (lv_at hl 1 rfl) ?_
    refine va_get (D := (dC, dI)) (ci := 0) (v := .ref a0_net) (C := R_CS) (T := T_CS) (N := 11) hx hb htt hin_CS hown hK hP 0 rfl rfl 0 (by decide) (htt _ kt_224) (fun _ h9 => h9) rfl d_CS_why_19 ?_
    refine va_get (D := (dC, dI)) (ci := 1) (v := .int v0_net_nodes) (C := R_Net) (T := T_Net) (N := 6) hx hb htt hin_Net hown hK hP 1 rfl rfl 3 (by decide) (htt _ kt_46) (fun _ h9 => h9) rfl d_CS_why_22 ?_
    refine lv_iconst (v := 1) hx hb d_CS_why_25 (by decide) ?_
    refine lv_isub hx hb d_CS_why_26 ?_
    refine lv_topi (fun x2_19 ex2_19 => ?_)
    have hm := gB_at ex2_19 hm
    refine lv_istore_n (lv' := [(2, .int x2_19), (1, .int q_1), (0, .ref a0)]) hx hb d_CS_why_27 rfl hl (by decide) rfl (fun ls hl => ?_)
    refine gL_e (P := (fun (z_28 : Int32 × Int32 × Int32 × Int32 × Int32 × Int32 × Int32 × Int32 × (Nat → Int32) × (Nat → Int32) × (Nat → Nat → Int32)) => ∀ (x1_20 : Int32), ∀ (x2_21 : Int32), ∀ (v0_painter_items_22 : Int32), ∀ (v0_painter_evenly_23 : Int32), ∀ (v0_painter_palette_24 : Int32), ∀ (v0_painter_share_25 : Int32), ∀ (v0_painter_bigger_26 : Int32), ∀ (v0_painter_bigNow_27 : Int32), ∀ (w0_painter_near_28 : Nat → Int32), ∀ (w0_painter_uses_29 : Nat → Int32), ∀ (w0_painter_free_30 : Nat → Nat → Int32), z_28 = (x1_20, x2_21, v0_painter_items_22, v0_painter_evenly_23, v0_painter_palette_24, v0_painter_share_25, v0_painter_bigger_26, v0_painter_bigNow_27, w0_painter_near_28, w0_painter_uses_29, w0_painter_free_30) → ∀ (ls : Array Slot) (H : Heap) (locs : List Loc), lv_has ls 4 [(0, .ref a0), (1, .int x1_20), (2, .int x2_21)] → va_P (dC, dI) vwCl (wd_CS_why cI cJ cG cZ a0 a0_net a0_painter a0_polynomial a0_listCounter a0_setFinder a0_takingApart a0_greedyRun a0_allowed a0_shown a0_shades a0_attempt a0_net_near a0_net_tail a0_net_head a0_painter_paint a0_painter_near a0_painter_free a0_painter_uses r0_painter_free v0_net_nodes v0_net_arcCount v0_net_version w0_net_near v0_painter_items_22 v0_painter_evenly_23 v0_painter_palette_24 v0_painter_share_25 v0_painter_bigger_26 v0_painter_bigNow_27 w0_painter_near_28 w0_painter_uses_29 w0_allowed w0_painter_free_30) H → va_D A (wd_CS_why cI cJ cG cZ a0 a0_net a0_painter a0_polynomial a0_listCounter a0_setFinder a0_takingApart a0_greedyRun a0_allowed a0_shown a0_shades a0_attempt a0_net_near a0_net_tail a0_net_head a0_painter_paint a0_painter_near a0_painter_free a0_painter_uses r0_painter_free v0_net_nodes v0_net_arcCount v0_net_version w0_net_near v0_painter_items_22 v0_painter_evenly_23 v0_painter_palette_24 v0_painter_share_25 v0_painter_bigger_26 v0_painter_bigNow_27 w0_painter_near_28 w0_painter_uses_29 w0_allowed w0_painter_free_30) → va_S A s.heap H locs → W p l e (headSpec us_CS_why rm_CS_why).room s m ([.ref a0] : List Value).toArray below meth c H locs 0 0 (MQ below (va_Qi (fun (r : Int32) (_ : Unit) => ret = r) (fun _ t => PoS (dC, dI) (tyL cI cJ cG cZ) (wd_CS_why cI cJ cG cZ a0 a0_net a0_painter a0_polynomial a0_listCounter a0_setFinder a0_takingApart a0_greedyRun a0_allowed a0_shown a0_shades a0_attempt a0_net_near a0_net_tail a0_net_head a0_painter_paint a0_painter_near a0_painter_free a0_painter_uses r0_painter_free v0_net_nodes v0_net_arcCount v0_net_version w0_net_near o_v0_painter_items o_v0_painter_evenly o_v0_painter_palette o_v0_painter_share o_v0_painter_bigger o_v0_painter_bigNow o_w0_painter_near o_w0_painter_uses w0_allowed o_w0_painter_free) A t) A) ([.ref a0] : List Value).toArray s 0 0 A) (F0 m 28 ls []))) hm (fun k_28 z_28 ih_28 hm => ?_) _ _ _ _ _ _ _ _ _ _ _ rfl ls H locs (lv_sub hl [2, 1, 0] rfl) hP hD hS
    intro x1_20 x2_21 v0_painter_items_22 v0_painter_evenly_23 v0_painter_palette_24 v0_painter_share_25 v0_painter_bigger_26 v0_painter_bigNow_27 w0_painter_near_28 w0_painter_uses_29 w0_painter_free_30 hz ls H locs hl hP hD hS
    subst hz
    dsimp only at hm
    refine lv_iload_n hx hb d_CS_why_28 rfl (lv_at hl 2 rfl) ?_
    refine lv_if_lt (tgt := 56) hx hb d_CS_why_29 (by decide) (fun c_31 => ?_) (fun c_31 => ?_)
    · have hm := ite_t c_31 hm
      refine lv_iload_n hx hb d_CS_why_56 rfl (lv_at hl 1 rfl) ?_
      cases hm
      exact W.iret hx hb hr (fun t ht hW => ⟨⟨_, (), rfl, rfl, by rw [ht]; exact hP, va_K.moved hW.alike hK, hD⟩, hS.F ht⟩) hS.2.2 d_CS_why_57
    · have hm := ite_f c_31 hm
      refine lv_iload_n hx hb d_CS_why_32 rfl (lv_at hl 1 rfl) ?_
      refine lv_iconst (v := 1) hx hb d_CS_why_33 (by decide) ?_
      refine lv_iload_n hx hb d_CS_why_34 rfl (lv_at hl 2 rfl) ?_
      refine lv_ishl hx hb d_CS_why_35 ?_
      refine lv_iconst (v := (-1)) hx hb d_CS_why_36 (by decide) ?_
      refine lv_ixor hx hb d_CS_why_37 ?_
      refine lv_iand hx hb d_CS_why_38 ?_
      refine lv_topi (fun x3_32 ex3_32 => ?_)
      have hm := gB_at ex3_32 hm
      refine lv_istore_n (lv' := [(3, .int x3_32), (0, .ref a0), (1, .int x1_20), (2, .int x2_21)]) hx hb d_CS_why_39 rfl hl (by decide) rfl (fun ls hl => ?_)
      refine lv_aload_n hx hb d_CS_why_40 rfl (lv_at hl 1 rfl) ?_
      refine lv_iload_n hx hb d_CS_why_41 rfl (lv_at hl 0 rfl) ?_
      obtain ⟨⟨q_33, v0_painter_items_34, v0_painter_evenly_35, v0_painter_palette_36, v0_painter_share_37, v0_painter_bigger_38, v0_painter_bigNow_39, w0_painter_near_40, w0_painter_uses_41, w0_painter_free_42⟩, hc_43, hm⟩ := gM_e hm
      dsimp only at hm
      have hPc : va_P (dC, dI) vwCl (wd_CS_hasListColouring cI cJ cG cZ a0 a0_net a0_painter a0_polynomial a0_listCounter a0_setFinder a0_takingApart a0_greedyRun a0_allowed a0_shown a0_shades a0_attempt a0_net_near a0_net_tail a0_net_head a0_painter_paint a0_painter_near a0_painter_free a0_painter_uses r0_painter_free v0_net_nodes v0_net_arcCount v0_net_version w0_net_near v0_painter_items_22 v0_painter_evenly_23 v0_painter_palette_24 v0_painter_share_25 v0_painter_bigger_26 v0_painter_bigNow_27 w0_painter_near_28 w0_painter_uses_29 w0_allowed w0_painter_free_30) H := hP.part [0, 1, 2, 3, 4, 5, 6, 7] rfl
      have hDc : va_D A (wd_CS_hasListColouring cI cJ cG cZ a0 a0_net a0_painter a0_polynomial a0_listCounter a0_setFinder a0_takingApart a0_greedyRun a0_allowed a0_shown a0_shades a0_attempt a0_net_near a0_net_tail a0_net_head a0_painter_paint a0_painter_near a0_painter_free a0_painter_uses r0_painter_free v0_net_nodes v0_net_arcCount v0_net_version w0_net_near v0_painter_items_22 v0_painter_evenly_23 v0_painter_palette_24 v0_painter_share_25 v0_painter_bigger_26 v0_painter_bigNow_27 w0_painter_near_28 w0_painter_uses_29 w0_allowed w0_painter_free_30) := hD.part [0, 1, 2, 3, 4, 5, 6, 7] (by decide) rfl
      have hFc : ∀ q, va_A (wd_CS_hasListColouring cI cJ cG cZ a0 a0_net a0_painter a0_polynomial a0_listCounter a0_setFinder a0_takingApart a0_greedyRun a0_allowed a0_shown a0_shades a0_attempt a0_net_near a0_net_tail a0_net_head a0_painter_paint a0_painter_near a0_painter_free a0_painter_uses r0_painter_free v0_net_nodes v0_net_arcCount v0_net_version w0_net_near v0_painter_items_22 v0_painter_evenly_23 v0_painter_palette_24 v0_painter_share_25 v0_painter_bigger_26 v0_painter_bigNow_27 w0_painter_near_28 w0_painter_uses_29 w0_allowed w0_painter_free_30) H.size q → A q := va_freeP hD hS hA [0, 1, 2, 3, 4, 5, 6, 7] rfl
      refine va_calli (va_runV (As := [.int x3_32]) (rest := []) ⟨hx, hb, hml, hown, htt⟩ (c_CS_hasListColouring l dC dI cI cJ cG cZ a0 a0_net a0_painter a0_polynomial a0_listCounter a0_setFinder a0_takingApart a0_greedyRun a0_allowed a0_shown a0_shades a0_attempt a0_net_near a0_net_tail a0_net_head a0_painter_paint a0_painter_near a0_painter_free a0_painter_uses r0_painter_free H.size F v0_net_nodes v0_net_arcCount v0_net_version w0_net_near v0_painter_items_22 v0_painter_evenly_23 v0_painter_palette_24 v0_painter_share_25 v0_painter_bigger_26 v0_painter_bigNow_27 w0_painter_near_28 w0_painter_uses_29 w0_allowed w0_painter_free_30 x3_32 q_33 v0_painter_items_34 v0_painter_evenly_35 v0_painter_palette_36 v0_painter_share_37 v0_painter_bigger_38 v0_painter_bigNow_39 w0_painter_near_40 w0_painter_uses_41 w0_painter_free_42 hc_43) (cwV 1 htt (gdV kt_518 kt_520 kp_31 kt_1 kt_521) rfl rfl rfl (by decide +kernel) ⟨(Nat.le_of_ble_eq_true rfl), (Nat.le_of_ble_eq_true rfl)⟩) ⟨PcS_blind, va_recv hK hPc (ci := 0) (q0 := 0) rfl rfl, PcS_in hPc hK hDc hNw⟩ rfl rfl hl.1 rfl (lv_room (Nat.le_of_ble_eq_true rfl)) d_CS_why_42 ⟨Nat.zero_le _, Nat.zero_le _⟩) hS (fun q _ h => hFc q h) hFc (fun r_45 u t H1 locs ht hvm hw hB hz1 hk1 hS => ?_)
      obtain ⟨hP1, hK1, hD1⟩ := hB
      rw [ht] at hP1
      obtain ⟨hw, hz_46⟩ := hw
      subst hw
      obtain ⟨hP, hD⟩ := va_joinP (wr := []) (rx := (we_CS_hasListColouring cI cJ cG cZ a0 a0_net a0_painter a0_polynomial a0_listCounter a0_setFinder a0_takingApart a0_greedyRun a0_allowed a0_shown a0_shades a0_attempt a0_net_near a0_net_tail a0_net_head a0_painter_paint a0_painter_near a0_painter_free a0_painter_uses r0_painter_free v0_net_nodes v0_net_arcCount v0_net_version w0_net_near v0_painter_items_34 v0_painter_evenly_35 v0_painter_palette_36 v0_painter_share_37 v0_painter_bigger_38 v0_painter_bigNow_39 w0_painter_near_40 w0_painter_uses_41 w0_allowed w0_painter_free_42)) hP hD [0, 1, 2, 3, 4, 5, 6, 7] [] rfl rfl (by decide) (by decide) hk1 hFc hP1 hD1
      have hP : va_P (dC, dI) vwCl (wd_CS_why cI cJ cG cZ a0 a0_net a0_painter a0_polynomial a0_listCounter a0_setFinder a0_takingApart a0_greedyRun a0_allowed a0_shown a0_shades a0_attempt a0_net_near a0_net_tail a0_net_head a0_painter_paint a0_painter_near a0_painter_free a0_painter_uses r0_painter_free v0_net_nodes v0_net_arcCount v0_net_version w0_net_near v0_painter_items_34 v0_painter_evenly_35 v0_painter_palette_36 v0_painter_share_37 v0_painter_bigger_38 v0_painter_bigNow_39 w0_painter_near_40 w0_painter_uses_41 w0_allowed w0_painter_free_42) H1 := hP.part [0, 1, 2, 3, 4, 5, 6, 7] rfl
      have hD : va_D A (wd_CS_why cI cJ cG cZ a0 a0_net a0_painter a0_polynomial a0_listCounter a0_setFinder a0_takingApart a0_greedyRun a0_allowed a0_shown a0_shades a0_attempt a0_net_near a0_net_tail a0_net_head a0_painter_paint a0_painter_near a0_painter_free a0_painter_uses r0_painter_free v0_net_nodes v0_net_arcCount v0_net_version w0_net_near v0_painter_items_34 v0_painter_evenly_35 v0_painter_palette_36 v0_painter_share_37 v0_painter_bigger_38 v0_painter_bigNow_39 w0_painter_near_40 w0_painter_uses_41 w0_allowed w0_painter_free_42) := hD.part [0, 1, 2, 3, 4, 5, 6, 7] (by decide) rfl
      clear hP1 hK1 hD1 hk1 hPc hDc hFc ht hvm hz1
      generalize H1 = H at hP hS ⊢
      refine lv_if_ne (tgt := 50) hx hb d_CS_why_45 (by decide) (fun c_47 => ?_) (fun c_47 => ?_)
      · have hm := ite_f c_47 hm
        obtain ⟨x2_48, ex2_48⟩ : ∃ y : Int32, y = x2_21 + (-1) := ⟨_, rfl⟩
        have hm := gB_at ex2_48 hm
        refine lv_iinc (v := x2_48) (lv' := [(2, .int x2_48), (3, .int x3_32), (0, .ref a0), (1, .int x1_20)]) hx hb d_CS_why_50 hl (k := 3) rfl (by rw [ex2_48]; rfl) (by decide) rfl (fun ls hl => ?_)
        refine lv_goto (tgt := 28) hx hb d_CS_why_53 (by decide) ?_
        exact ih_28 _ hm _ _ _ _ _ _ _ _ _ _ _ rfl ls H locs (lv_sub hl [2, 3, 0] rfl) hP hD hS
      · have hm := ite_t c_47 hm
        refine lv_iload_n hx hb d_CS_why_48 rfl (lv_at hl 0 rfl) ?_
        refine lv_istore_n (lv' := [(1, .int x3_32), (3, .int x3_32), (0, .ref a0), (2, .int x2_21)]) hx hb d_CS_why_49 rfl hl (by decide) rfl (fun ls hl => ?_)
        obtain ⟨x2_49, ex2_49⟩ : ∃ y : Int32, y = x2_21 + (-1) := ⟨_, rfl⟩
        have hm := gB_at ex2_49 hm
        refine lv_iinc (v := x2_49) (lv' := [(2, .int x2_49), (1, .int x3_32), (3, .int x3_32), (0, .ref a0)]) hx hb d_CS_why_50 hl (k := 3) rfl (by rw [ex2_49]; rfl) (by decide) rfl (fun ls hl => ?_)
        refine lv_goto (tgt := 28) hx hb d_CS_why_53 (by decide) ?_
        exact ih_28 _ hm _ _ _ _ _ _ _ _ _ _ _ rfl ls H locs (lv_sub hl [3, 1, 0] rfl) hP hD hS
  · have hm := ite_f c_18 hm
    refine lv_iconst (v := 0) hx hb d_CS_why_16 (by decide) ?_
    cases hm
    exact W.iret hx hb hr (fun t ht hW => ⟨⟨_, (), rfl, rfl, by rw [ht]; exact hP, va_K.moved hW.alike hK, hD⟩, hS.F ht⟩) hS.2.2 d_CS_why_17
theorem d_CS_shade_0 : decode prog_1_method_15_code 0 = .ok (.iload_n 1, 1) := by decide +kernel
theorem d_CS_shade_1 : decode prog_1_method_15_code 1 = .ok (.ifCond .lt 23, 3) := by decide +kernel
theorem d_CS_shade_4 : decode prog_1_method_15_code 4 = .ok (.iload_n 1, 1) := by decide +kernel
theorem d_CS_shade_5 : decode prog_1_method_15_code 5 = .ok (.aload_n 0, 1) := by decide +kernel
theorem d_CS_shade_6 : decode prog_1_method_15_code 6 = .ok (.getfield 12, 3) := by decide +kernel
theorem d_CS_shade_9 : decode prog_1_method_15_code 9 = .ok (.getfield 89, 3) := by decide +kernel
theorem d_CS_shade_12 : decode prog_1_method_15_code 12 = .ok (.if_icmp .ge 12, 3) := by decide +kernel
theorem d_CS_shade_15 : decode prog_1_method_15_code 15 = .ok (.aload_n 0, 1) := by decide +kernel
theorem d_CS_shade_16 : decode prog_1_method_15_code 16 = .ok (.getfield 65, 3) := by decide +kernel
theorem d_CS_shade_19 : decode prog_1_method_15_code 19 = .ok (.iload_n 1, 1) := by decide +kernel
theorem d_CS_shade_20 : decode prog_1_method_15_code 20 = .ok (.iaload, 1) := by decide +kernel
theorem d_CS_shade_21 : decode prog_1_method_15_code 21 = .ok (.goto 4, 3) := by decide +kernel
theorem d_CS_shade_24 : decode prog_1_method_15_code 24 = .ok (.iconst (-1), 1) := by decide +kernel
theorem d_CS_shade_25 : decode prog_1_method_15_code 25 = .ok (.ireturn, 1) := by decide +kernel
abbrev wd_CS_shade (cI cJ cG cZ : ClassId) (a0 a0_net a0_painter a0_polynomial a0_listCounter a0_setFinder a0_takingApart a0_greedyRun a0_allowed a0_shown a0_shades a0_attempt a0_net_near a0_net_tail a0_net_head : Nat) (v0_net_nodes : Int32) (v0_net_arcCount : Int32) (v0_net_version : Int32) (w0_shades : Nat → Int32) : va_W := [(a0, .inr (0, [.ref a0_net, .ref a0_painter, .ref a0_polynomial, .ref a0_listCounter, .ref a0_setFinder, .ref a0_takingApart, .ref a0_greedyRun, .ref a0_allowed, .ref a0_shown, .ref a0_shades, .ref a0_attempt])), (a0_net, .inr (1, [.ref a0_net_near, .ref a0_net_tail, .ref a0_net_head, .int v0_net_nodes, .int v0_net_arcCount, .int v0_net_version])), (a0_shades, .inl (cI, 40, .inl w0_shades))]
abbrev us_CS_shade : List Cond := .code y_CS_shade prog_1_method_15_code 2 (some .int) :: gtbl
abbrev rm_CS_shade : Room := { frames := 0, cells := 0, slots := 0, locals := 0 }
def m_CS_shade (F : Nat) (v0_net_nodes : Int32) (v0_net_arcCount : Int32) (v0_net_version : Int32) (w0_shades : Nat → Int32) (p1 : Int32) : Option (Int32) :=
  if p1 < 0 then (
    some (-1)
  ) else (
    if v0_net_arcCount ≤ p1 then (
      some (-1)
    ) else (
      gC (inb p1 40) (
      some (w0_shades p1.toNatClampNeg))
    )
  )
set_option maxHeartbeats 4000000 in
set_option maxRecDepth 100000 in
theorem c_CS_shade (l : Launch) (dC : Nat → ClassId) (dI : Nat → Nat → Nat) (cI cJ cG cZ : ClassId) (a0 a0_net a0_painter a0_polynomial a0_listCounter a0_setFinder a0_takingApart a0_greedyRun a0_allowed a0_shown a0_shades a0_attempt a0_net_near a0_net_tail a0_net_head : Nat) (sz : Nat) (F : Nat) (v0_net_nodes : Int32) (v0_net_arcCount : Int32) (v0_net_version : Int32) (w0_shades : Nat → Int32) (p1 : Int32) (ret : Int32) (hm : m_CS_shade F v0_net_nodes v0_net_arcCount v0_net_version w0_shades p1 = some ret) : Met l y_CS_shade us_CS_shade rm_CS_shade (PcS (dC, dI) (tyL cI cJ cG cZ) [.ref a0, .int p1] sz (wd_CS_shade cI cJ cG cZ a0 a0_net a0_painter a0_polynomial a0_listCounter a0_setFinder a0_takingApart a0_greedyRun a0_allowed a0_shown a0_shades a0_attempt a0_net_near a0_net_tail a0_net_head v0_net_nodes v0_net_arcCount v0_net_version w0_shades)) (va_Qi (fun (r : Int32) (_ : Unit) => ret = r) (fun _ t => PoS (dC, dI) (tyL cI cJ cG cZ) (wd_CS_shade cI cJ cG cZ a0 a0_net a0_painter a0_polynomial a0_listCounter a0_setFinder a0_takingApart a0_greedyRun a0_allowed a0_shown a0_shades a0_attempt a0_net_near a0_net_tail a0_net_head v0_net_nodes v0_net_arcCount v0_net_version w0_shades) (va_A (wd_CS_shade cI cJ cG cZ a0 a0_net a0_painter a0_polynomial a0_listCounter a0_setFinder a0_takingApart a0_greedyRun a0_allowed a0_shown a0_shades a0_attempt a0_net_near a0_net_tail a0_net_head v0_net_nodes v0_net_arcCount v0_net_version w0_shades) sz) t) (va_A (wd_CS_shade cI cJ cG cZ a0 a0_net a0_painter a0_polynomial a0_listCounter a0_setFinder a0_takingApart a0_greedyRun a0_allowed a0_shown a0_shades a0_attempt a0_net_near a0_net_tail a0_net_head v0_net_nodes v0_net_arcCount v0_net_version w0_shades) sz)) 0 0 (va_A (wd_CS_shade cI cJ cG cZ a0 a0_net a0_painter a0_polynomial a0_listCounter a0_setFinder a0_takingApart a0_greedyRun a0_allowed a0_shown a0_shades a0_attempt a0_net_near a0_net_tail a0_net_head v0_net_nodes v0_net_arcCount v0_net_version w0_shades) sz) := by
  refine Met.ofW (cc := prog_1_method_15_code) (maxL := 2) (ret := (some .int)) (by decide) rfl ?_
  intro p e s m args below meth c s₁ B hml hv
  obtain ⟨rfl, hsz, hP, hK, hD0, hNw⟩ := hv
  have hx := B.exec
  have hb := B.bytes
  have hr := B.returns
  have htt : ∀ w ∈ gtbl, w.before _ s = true := fun w h => atoms_spec (ws := us_CS_shade) B.pre w (List.mem_cons_of_mem _ h)
  have hown : s.vm.findClass R_CS = some m.cls := findClass_of_methodNamed B.named
  have hlocks := B.notSynchronized
  subst hsz
  have hD := hD0.self (sz := s.heap.size)
  generalize hAe : va_A (wd_CS_shade cI cJ cG cZ a0 a0_net a0_painter a0_polynomial a0_listCounter a0_setFinder a0_takingApart a0_greedyRun a0_allowed a0_shown a0_shades a0_attempt a0_net_near a0_net_tail a0_net_head v0_net_nodes v0_net_arcCount v0_net_version w0_shades) s.heap.size = A at hD ⊢
  have hA : ∀ q : Nat, s.heap.size ≤ q → A q := fun q h => by rw [← hAe]; exact Or.inr h
  clear hAe hD0
  have hS : va_S A s.heap s.heap [] := va_S.rf
  have hl := lv_entry ([.ref a0, .int p1]) (n := 2) (Nat.le_of_ble_eq_true rfl)
  rw [lg_entry_eq]
  generalize (lg_sl ([.ref a0, .int p1]) ++ List.replicate (2 - (lg_sl ([.ref a0, .int p1])).length) Slot.unset).toArray = ls at hl ⊢
  have hl : lv_has ls 2 [(0, .ref a0), (1, .int p1)] := hl
  generalize hH : s.heap = H at hP ⊢
  have hS : va_S A s.heap H [] := hH ▸ hS
  generalize hLo : ([] : List Loc) = locs at hS ⊢
  clear hH hLo
  unfold m_CS_shade at hm
  refine lv_iload_n hx hb d_CS_shade_0 rfl (lv_at hl 1 rfl) ?_
  refine lv_if_lt (tgt := 24) hx hb d_CS_shade_1 (by decide) (fun c_1 => ?_) (fun c_1 => ?_)
  · have hm := ite_t c_1 hm
    refine lv_iconst (v := (-1)) hx hb d_CS_shade_24 (by decide) ?_
    cases hm
    exact W.iret hx hb hr (fun t ht hW => ⟨⟨_, (), rfl, rfl, by rw [ht]; exact hP, va_K.moved hW.alike hK, hD⟩, hS.F ht⟩) hS.2.2 d_CS_shade_25
  · have hm := ite_f c_1 hm
    refine lv_iload_n hx hb d_CS_shade_4 rfl (lv_at hl 1 rfl) ?_
    refine lv_aload_n hx hb d_CS_shade_5 rfl (lv_at hl 0 rfl) ?_
    refine va_get (D := (dC, dI)) (ci := 0) (v := .ref a0_net) (C := R_CS) (T := T_CS) (N := 11) hx hb htt hin_CS hown hK hP 0 rfl rfl 0 (by decide) (htt _ kt_224) (fun _ h9 => h9) rfl d_CS_shade_6 ?_
    refine va_get (D := (dC, dI)) (ci := 1) (v := .int v0_net_arcCount) (C := R_Net) (T := T_Net) (N := 6) hx hb htt hin_Net hown hK hP 1 rfl rfl 4 (by decide) (htt _ kt_53) (fun _ h9 => h9) rfl d_CS_shade_9 ?_
    refine lv_icmp_ge (tgt := 24) hx hb d_CS_shade_12 (by decide) (fun c_2 => ?_) (fun c_2 => ?_)
    · have hm := ite_t c_2 hm
      refine lv_iconst (v := (-1)) hx hb d_CS_shade_24 (by decide) ?_
      cases hm
      exact W.iret hx hb hr (fun t ht hW => ⟨⟨_, (), rfl, rfl, by rw [ht]; exact hP, va_K.moved hW.alike hK, hD⟩, hS.F ht⟩) hS.2.2 d_CS_shade_25
    · have hm := ite_f c_2 hm
      refine lv_aload_n hx hb d_CS_shade_15 rfl (lv_at hl 0 rfl) ?_
      refine va_get (D := (dC, dI)) (ci := 0) (v := .ref a0_shades) (C := R_CS) (T := T_CS) (N := 11) hx hb htt hin_CS hown hK hP 0 rfl rfl 9 (by decide) (htt _ kt_233) (fun _ h9 => h9) rfl d_CS_shade_16 ?_
      refine lv_iload_n hx hb d_CS_shade_19 rfl (lv_at hl 1 rfl) ?_
      obtain ⟨hi_3, hm⟩ := gC_e hm
      refine va_iald hx hb hK hP 2 0 rfl rfl (inb_vp hi_3) d_CS_shade_20 ?_
      refine lv_goto (tgt := 25) hx hb d_CS_shade_21 (by decide) ?_
      cases hm
      exact W.iret hx hb hr (fun t ht hW => ⟨⟨_, (), rfl, rfl, by rw [ht]; exact hP, va_K.moved hW.alike hK, hD⟩, hS.F ht⟩) hS.2.2 d_CS_shade_25
theorem d_CS_clique_0 : decode prog_1_method_16_code 0 = .ok (.aload_n 0, 1) := by decide +kernel
theorem d_CS_clique_1 : decode prog_1_method_16_code 1 = .ok (.getfield 40, 3) := by decide +kernel
theorem d_CS_clique_4 : decode prog_1_method_16_code 4 = .ok (.aload_n 0, 1) := by decide +kernel
theorem d_CS_clique_5 : decode prog_1_method_16_code 5 = .ok (.getfield 12, 3) := by decide +kernel
theorem d_CS_clique_8 : decode prog_1_method_16_code 8 = .ok (.invokevirtual 166, 3) := by decide +kernel
theorem d_CS_clique_11 : decode prog_1_method_16_code 11 = .ok (.ireturn, 1) := by decide +kernel
abbrev wd_CS_clique (cI cJ cG cZ : ClassId) (a0 a0_net a0_painter a0_polynomial a0_listCounter a0_setFinder a0_takingApart a0_greedyRun a0_allowed a0_shown a0_shades a0_attempt a0_net_near a0_net_tail a0_net_head a0_setFinder_fits : Nat) (v0_net_nodes : Int32) (v0_net_arcCount : Int32) (v0_net_version : Int32) (w0_net_near : Nat → Int32) (v0_setFinder_best : Int32) (w0_setFinder_fits : Nat → Int32) : va_W := [(a0, .inr (0, [.ref a0_net, .ref a0_painter, .ref a0_polynomial, .ref a0_listCounter, .ref a0_setFinder, .ref a0_takingApart, .ref a0_greedyRun, .ref a0_allowed, .ref a0_shown, .ref a0_shades, .ref a0_attempt])), (a0_net, .inr (1, [.ref a0_net_near, .ref a0_net_tail, .ref a0_net_head, .int v0_net_nodes, .int v0_net_arcCount, .int v0_net_version])), (a0_net_near, .inl (cI, 12, .inl w0_net_near)), (a0_setFinder, .inr (5, [.ref a0_setFinder_fits, .int v0_setFinder_best])), (a0_setFinder_fits, .inl (cI, 12, .inl w0_setFinder_fits))]
abbrev us_CS_clique : List Cond := .code y_CS_clique prog_1_method_16_code 1 (some .int) :: gtbl
abbrev rm_CS_clique : Room := { frames := 18, cells := 0, slots := 0, locals := 447 }
def m_CS_clique (F : Nat) (v0_net_nodes : Int32) (v0_net_arcCount : Int32) (v0_net_version : Int32) (w0_net_near : Nat → Int32) (v0_setFinder_best : Int32) (w0_setFinder_fits : Nat → Int32) : Option (Int32 × Int32 × (Nat → Int32)) :=
  gM (m_SF_greatestClique F v0_setFinder_best w0_setFinder_fits v0_net_nodes v0_net_arcCount v0_net_version w0_net_near) (fun (z_5 : Int32 × Int32 × (Nat → Int32)) => match z_5 with
  | (q_1, v0_setFinder_best_2, w0_setFinder_fits_3) =>
  some (q_1, v0_setFinder_best_2, w0_setFinder_fits_3))
set_option maxHeartbeats 4000000 in
set_option maxRecDepth 100000 in
theorem c_CS_clique (l : Launch) (dC : Nat → ClassId) (dI : Nat → Nat → Nat) (cI cJ cG cZ : ClassId) (a0 a0_net a0_painter a0_polynomial a0_listCounter a0_setFinder a0_takingApart a0_greedyRun a0_allowed a0_shown a0_shades a0_attempt a0_net_near a0_net_tail a0_net_head a0_setFinder_fits : Nat) (sz : Nat) (F : Nat) (v0_net_nodes : Int32) (v0_net_arcCount : Int32) (v0_net_version : Int32) (w0_net_near : Nat → Int32) (v0_setFinder_best : Int32) (w0_setFinder_fits : Nat → Int32) (ret : Int32) (o_v0_setFinder_best : Int32) (o_w0_setFinder_fits : Nat → Int32) (hm : m_CS_clique F v0_net_nodes v0_net_arcCount v0_net_version w0_net_near v0_setFinder_best w0_setFinder_fits = some (ret, o_v0_setFinder_best, o_w0_setFinder_fits)) : Met l y_CS_clique us_CS_clique rm_CS_clique (PcS (dC, dI) (tyL cI cJ cG cZ) [.ref a0] sz (wd_CS_clique cI cJ cG cZ a0 a0_net a0_painter a0_polynomial a0_listCounter a0_setFinder a0_takingApart a0_greedyRun a0_allowed a0_shown a0_shades a0_attempt a0_net_near a0_net_tail a0_net_head a0_setFinder_fits v0_net_nodes v0_net_arcCount v0_net_version w0_net_near v0_setFinder_best w0_setFinder_fits)) (va_Qi (fun (r : Int32) (_ : Unit) => ret = r) (fun _ t => PoS (dC, dI) (tyL cI cJ cG cZ) (wd_CS_clique cI cJ cG cZ a0 a0_net a0_painter a0_polynomial a0_listCounter a0_setFinder a0_takingApart a0_greedyRun a0_allowed a0_shown a0_shades a0_attempt a0_net_near a0_net_tail a0_net_head a0_setFinder_fits v0_net_nodes v0_net_arcCount v0_net_version w0_net_near o_v0_setFinder_best o_w0_setFinder_fits) (va_A (wd_CS_clique cI cJ cG cZ a0 a0_net a0_painter a0_polynomial a0_listCounter a0_setFinder a0_takingApart a0_greedyRun a0_allowed a0_shown a0_shades a0_attempt a0_net_near a0_net_tail a0_net_head a0_setFinder_fits v0_net_nodes v0_net_arcCount v0_net_version w0_net_near v0_setFinder_best w0_setFinder_fits) sz) t) (va_A (wd_CS_clique cI cJ cG cZ a0 a0_net a0_painter a0_polynomial a0_listCounter a0_setFinder a0_takingApart a0_greedyRun a0_allowed a0_shown a0_shades a0_attempt a0_net_near a0_net_tail a0_net_head a0_setFinder_fits v0_net_nodes v0_net_arcCount v0_net_version w0_net_near v0_setFinder_best w0_setFinder_fits) sz)) 0 0 (va_A (wd_CS_clique cI cJ cG cZ a0 a0_net a0_painter a0_polynomial a0_listCounter a0_setFinder a0_takingApart a0_greedyRun a0_allowed a0_shown a0_shades a0_attempt a0_net_near a0_net_tail a0_net_head a0_setFinder_fits v0_net_nodes v0_net_arcCount v0_net_version w0_net_near v0_setFinder_best w0_setFinder_fits) sz) := by
  refine Met.ofW (cc := prog_1_method_16_code) (maxL := 1) (ret := (some .int)) (by decide) rfl ?_
  intro p e s m args below meth c s₁ B hml hv
  obtain ⟨rfl, hsz, hP, hK, hD0, hNw⟩ := hv
  have hx := B.exec
  have hb := B.bytes
  have hr := B.returns
  have htt : ∀ w ∈ gtbl, w.before _ s = true := fun w h => atoms_spec (ws := us_CS_clique) B.pre w (List.mem_cons_of_mem _ h)
  have hown : s.vm.findClass R_CS = some m.cls := findClass_of_methodNamed B.named
  have hlocks := B.notSynchronized
  subst hsz
  have hD := hD0.self (sz := s.heap.size)
  generalize hAe : va_A (wd_CS_clique cI cJ cG cZ a0 a0_net a0_painter a0_polynomial a0_listCounter a0_setFinder a0_takingApart a0_greedyRun a0_allowed a0_shown a0_shades a0_attempt a0_net_near a0_net_tail a0_net_head a0_setFinder_fits v0_net_nodes v0_net_arcCount v0_net_version w0_net_near v0_setFinder_best w0_setFinder_fits) s.heap.size = A at hD ⊢
  have hA : ∀ q : Nat, s.heap.size ≤ q → A q := fun q h => by rw [← hAe]; exact Or.inr h
  clear hAe hD0
  have hS : va_S A s.heap s.heap [] := va_S.rf
  have hl := lv_entry ([.ref a0]) (n := 1) (Nat.le_of_ble_eq_true rfl)
  rw [lg_entry_eq]
  generalize (lg_sl ([.ref a0]) ++ List.replicate (1 - (lg_sl ([.ref a0])).length) Slot.unset).toArray = ls at hl ⊢
  have hl : lv_has ls 1 [(0, .ref a0)] := hl
  generalize hH : s.heap = H at hP ⊢
  have hS : va_S A s.heap H [] := hH ▸ hS
  generalize hLo : ([] : List Loc) = locs at hS ⊢
  clear hH hLo
  unfold m_CS_clique at hm
  refine lv_aload_n hx hb d_CS_clique_0 rfl (lv_at hl 0 rfl) ?_
  refine va_get (D := (dC, dI)) (ci := 0) (v := .ref a0_setFinder) (C := R_CS) (T := T_CS) (N := 11) hx hb htt hin_CS hown hK hP 0 rfl rfl 4 (by decide) (htt _ kt_228) (fun _ h9 => h9) rfl d_CS_clique_1 ?_
  refine lv_aload_n hx hb d_CS_clique_4 rfl (lv_at hl 0 rfl) ?_
  refine va_get (D := (dC, dI)) (ci := 0) (v := .ref a0_net) (C := R_CS) (T := T_CS) (N := 11) hx hb htt hin_CS hown hK hP 0 rfl rfl 0 (by decide) (htt _ kt_224) (fun _ h9 => h9) rfl d_CS_clique_5 ?_
  obtain ⟨⟨q_1, v0_setFinder_best_2, w0_setFinder_fits_3⟩, hc_4, hm⟩ := gM_e hm
  dsimp only at hm
  have hPc : va_P (dC, dI) vwCl (wd_SF_greatestClique cI cJ cG cZ a0_setFinder a0_net a0_setFinder_fits a0_net_near a0_net_tail a0_net_head v0_setFinder_best w0_setFinder_fits v0_net_nodes v0_net_arcCount v0_net_version w0_net_near) H := hP.sub [3, 4, 1, 2] rfl
  have hDc : va_D A (wd_SF_greatestClique cI cJ cG cZ a0_setFinder a0_net a0_setFinder_fits a0_net_near a0_net_tail a0_net_head v0_setFinder_best w0_setFinder_fits v0_net_nodes v0_net_arcCount v0_net_version w0_net_near) := hD.sub [3, 4, 1, 2] (by decide) rfl
  have hFc : ∀ q, va_A (wd_SF_greatestClique cI cJ cG cZ a0_setFinder a0_net a0_setFinder_fits a0_net_near a0_net_tail a0_net_head v0_setFinder_best w0_setFinder_fits v0_net_nodes v0_net_arcCount v0_net_version w0_net_near) H.size q → A q := va_free hD hS hA [3, 4, 1, 2] rfl
  refine va_calli (va_runV (As := [.ref a0_net]) (rest := []) ⟨hx, hb, hml, hown, htt⟩ (c_SF_greatestClique l dC dI cI cJ cG cZ a0_setFinder a0_net a0_setFinder_fits a0_net_near a0_net_tail a0_net_head H.size F v0_setFinder_best w0_setFinder_fits v0_net_nodes v0_net_arcCount v0_net_version w0_net_near q_1 v0_setFinder_best_2 w0_setFinder_fits_3 hc_4) (cwV 1 htt (gdV kt_534 kt_535 kt_536 kt_6 kt_537) rfl rfl rfl (by decide +kernel) ⟨(Nat.le_of_ble_eq_true rfl), (Nat.le_of_ble_eq_true rfl)⟩) ⟨PcS_blind, va_recv hK hPc (ci := 5) (q0 := 0) rfl rfl, PcS_in hPc hK hDc hNw⟩ rfl rfl hl.1 rfl (lv_room (Nat.le_of_ble_eq_true rfl)) d_CS_clique_8 ⟨Nat.zero_le _, Nat.zero_le _⟩) hS (fun q _ h => hFc q h) hFc (fun r_6 u t H1 locs ht hvm hw hB hz1 hk1 hS => ?_)
  obtain ⟨hP1, hK1, hD1⟩ := hB
  rw [ht] at hP1
  subst hw
  obtain ⟨hP, hD⟩ := va_join (wr := [(a0, .inr (0, [.ref a0_net, .ref a0_painter, .ref a0_polynomial, .ref a0_listCounter, .ref a0_setFinder, .ref a0_takingApart, .ref a0_greedyRun, .ref a0_allowed, .ref a0_shown, .ref a0_shades, .ref a0_attempt]))]) (w1 := (wd_SF_greatestClique cI cJ cG cZ a0_setFinder a0_net a0_setFinder_fits a0_net_near a0_net_tail a0_net_head v0_setFinder_best_2 w0_setFinder_fits_3 v0_net_nodes v0_net_arcCount v0_net_version w0_net_near)) hP hD [3, 4, 1, 2] [0] rfl rfl (by decide) (by decide) hk1 hFc hP1 hD1
  have hP : va_P (dC, dI) vwCl (wd_CS_clique cI cJ cG cZ a0 a0_net a0_painter a0_polynomial a0_listCounter a0_setFinder a0_takingApart a0_greedyRun a0_allowed a0_shown a0_shades a0_attempt a0_net_near a0_net_tail a0_net_head a0_setFinder_fits v0_net_nodes v0_net_arcCount v0_net_version w0_net_near v0_setFinder_best_2 w0_setFinder_fits_3) H1 := hP.sub [0, 3, 4, 1, 2] rfl
  have hD : va_D A (wd_CS_clique cI cJ cG cZ a0 a0_net a0_painter a0_polynomial a0_listCounter a0_setFinder a0_takingApart a0_greedyRun a0_allowed a0_shown a0_shades a0_attempt a0_net_near a0_net_tail a0_net_head a0_setFinder_fits v0_net_nodes v0_net_arcCount v0_net_version w0_net_near v0_setFinder_best_2 w0_setFinder_fits_3) := hD.sub [0, 3, 4, 1, 2] (by decide) rfl
  clear hP1 hK1 hD1 hk1 hPc hDc hFc ht hvm hz1
  generalize H1 = H at hP hS ⊢
  cases hm
  exact W.iret hx hb hr (fun t ht hW => ⟨⟨_, (), rfl, rfl, by rw [ht]; exact hP, va_K.moved hW.alike hK, hD⟩, hS.F ht⟩) hS.2.2 d_CS_clique_11
theorem d_CS_apart_0 : decode prog_1_method_17_code 0 = .ok (.aload_n 0, 1) := by decide +kernel
theorem d_CS_apart_1 : decode prog_1_method_17_code 1 = .ok (.getfield 40, 3) := by decide +kernel
theorem d_CS_apart_4 : decode prog_1_method_17_code 4 = .ok (.aload_n 0, 1) := by decide +kernel
theorem d_CS_apart_5 : decode prog_1_method_17_code 5 = .ok (.getfield 12, 3) := by decide +kernel
theorem d_CS_apart_8 : decode prog_1_method_17_code 8 = .ok (.invokevirtual 170, 3) := by decide +kernel
theorem d_CS_apart_11 : decode prog_1_method_17_code 11 = .ok (.ireturn, 1) := by decide +kernel
abbrev wd_CS_apart (cI cJ cG cZ : ClassId) (a0 a0_net a0_painter a0_polynomial a0_listCounter a0_setFinder a0_takingApart a0_greedyRun a0_allowed a0_shown a0_shades a0_attempt a0_net_near a0_net_tail a0_net_head a0_setFinder_fits : Nat) (v0_net_nodes : Int32) (v0_net_arcCount : Int32) (v0_net_version : Int32) (w0_net_near : Nat → Int32) (v0_setFinder_best : Int32) (w0_setFinder_fits : Nat → Int32) : va_W := [(a0, .inr (0, [.ref a0_net, .ref a0_painter, .ref a0_polynomial, .ref a0_listCounter, .ref a0_setFinder, .ref a0_takingApart, .ref a0_greedyRun, .ref a0_allowed, .ref a0_shown, .ref a0_shades, .ref a0_attempt])), (a0_net, .inr (1, [.ref a0_net_near, .ref a0_net_tail, .ref a0_net_head, .int v0_net_nodes, .int v0_net_arcCount, .int v0_net_version])), (a0_net_near, .inl (cI, 12, .inl w0_net_near)), (a0_setFinder, .inr (5, [.ref a0_setFinder_fits, .int v0_setFinder_best])), (a0_setFinder_fits, .inl (cI, 12, .inl w0_setFinder_fits))]
abbrev us_CS_apart : List Cond := .code y_CS_apart prog_1_method_17_code 1 (some .int) :: gtbl
abbrev rm_CS_apart : Room := { frames := 18, cells := 0, slots := 0, locals := 448 }
def m_CS_apart (F : Nat) (v0_net_nodes : Int32) (v0_net_arcCount : Int32) (v0_net_version : Int32) (w0_net_near : Nat → Int32) (v0_setFinder_best : Int32) (w0_setFinder_fits : Nat → Int32) : Option (Int32 × Int32 × (Nat → Int32)) :=
  gM (m_SF_greatestApart F v0_setFinder_best w0_setFinder_fits v0_net_nodes v0_net_arcCount v0_net_version w0_net_near) (fun (z_5 : Int32 × Int32 × (Nat → Int32)) => match z_5 with
  | (q_1, v0_setFinder_best_2, w0_setFinder_fits_3) =>
  some (q_1, v0_setFinder_best_2, w0_setFinder_fits_3))
set_option maxHeartbeats 4000000 in
set_option maxRecDepth 100000 in
theorem c_CS_apart (l : Launch) (dC : Nat → ClassId) (dI : Nat → Nat → Nat) (cI cJ cG cZ : ClassId) (a0 a0_net a0_painter a0_polynomial a0_listCounter a0_setFinder a0_takingApart a0_greedyRun a0_allowed a0_shown a0_shades a0_attempt a0_net_near a0_net_tail a0_net_head a0_setFinder_fits : Nat) (sz : Nat) (F : Nat) (v0_net_nodes : Int32) (v0_net_arcCount : Int32) (v0_net_version : Int32) (w0_net_near : Nat → Int32) (v0_setFinder_best : Int32) (w0_setFinder_fits : Nat → Int32) (ret : Int32) (o_v0_setFinder_best : Int32) (o_w0_setFinder_fits : Nat → Int32) (hm : m_CS_apart F v0_net_nodes v0_net_arcCount v0_net_version w0_net_near v0_setFinder_best w0_setFinder_fits = some (ret, o_v0_setFinder_best, o_w0_setFinder_fits)) : Met l y_CS_apart us_CS_apart rm_CS_apart (PcS (dC, dI) (tyL cI cJ cG cZ) [.ref a0] sz (wd_CS_apart cI cJ cG cZ a0 a0_net a0_painter a0_polynomial a0_listCounter a0_setFinder a0_takingApart a0_greedyRun a0_allowed a0_shown a0_shades a0_attempt a0_net_near a0_net_tail a0_net_head a0_setFinder_fits v0_net_nodes v0_net_arcCount v0_net_version w0_net_near v0_setFinder_best w0_setFinder_fits)) (va_Qi (fun (r : Int32) (_ : Unit) => ret = r) (fun _ t => PoS (dC, dI) (tyL cI cJ cG cZ) (wd_CS_apart cI cJ cG cZ a0 a0_net a0_painter a0_polynomial a0_listCounter a0_setFinder a0_takingApart a0_greedyRun a0_allowed a0_shown a0_shades a0_attempt a0_net_near a0_net_tail a0_net_head a0_setFinder_fits v0_net_nodes v0_net_arcCount v0_net_version w0_net_near o_v0_setFinder_best o_w0_setFinder_fits) (va_A (wd_CS_apart cI cJ cG cZ a0 a0_net a0_painter a0_polynomial a0_listCounter a0_setFinder a0_takingApart a0_greedyRun a0_allowed a0_shown a0_shades a0_attempt a0_net_near a0_net_tail a0_net_head a0_setFinder_fits v0_net_nodes v0_net_arcCount v0_net_version w0_net_near v0_setFinder_best w0_setFinder_fits) sz) t) (va_A (wd_CS_apart cI cJ cG cZ a0 a0_net a0_painter a0_polynomial a0_listCounter a0_setFinder a0_takingApart a0_greedyRun a0_allowed a0_shown a0_shades a0_attempt a0_net_near a0_net_tail a0_net_head a0_setFinder_fits v0_net_nodes v0_net_arcCount v0_net_version w0_net_near v0_setFinder_best w0_setFinder_fits) sz)) 0 0 (va_A (wd_CS_apart cI cJ cG cZ a0 a0_net a0_painter a0_polynomial a0_listCounter a0_setFinder a0_takingApart a0_greedyRun a0_allowed a0_shown a0_shades a0_attempt a0_net_near a0_net_tail a0_net_head a0_setFinder_fits v0_net_nodes v0_net_arcCount v0_net_version w0_net_near v0_setFinder_best w0_setFinder_fits) sz) := by
  refine Met.ofW (cc := prog_1_method_17_code) (maxL := 1) (ret := (some .int)) (by decide) rfl ?_
  intro p e s m args below meth c s₁ B hml hv
  obtain ⟨rfl, hsz, hP, hK, hD0, hNw⟩ := hv
  have hx := B.exec
  have hb := B.bytes
  have hr := B.returns
  have htt : ∀ w ∈ gtbl, w.before _ s = true := fun w h => atoms_spec (ws := us_CS_apart) B.pre w (List.mem_cons_of_mem _ h)
  have hown : s.vm.findClass R_CS = some m.cls := findClass_of_methodNamed B.named
  have hlocks := B.notSynchronized
  subst hsz
  have hD := hD0.self (sz := s.heap.size)
  generalize hAe : va_A (wd_CS_apart cI cJ cG cZ a0 a0_net a0_painter a0_polynomial a0_listCounter a0_setFinder a0_takingApart a0_greedyRun a0_allowed a0_shown a0_shades a0_attempt a0_net_near a0_net_tail a0_net_head a0_setFinder_fits v0_net_nodes v0_net_arcCount v0_net_version w0_net_near v0_setFinder_best w0_setFinder_fits) s.heap.size = A at hD ⊢
  have hA : ∀ q : Nat, s.heap.size ≤ q → A q := fun q h => by rw [← hAe]; exact Or.inr h
  clear hAe hD0
  have hS : va_S A s.heap s.heap [] := va_S.rf
  have hl := lv_entry ([.ref a0]) (n := 1) (Nat.le_of_ble_eq_true rfl)
  rw [lg_entry_eq]
  generalize (lg_sl ([.ref a0]) ++ List.replicate (1 - (lg_sl ([.ref a0])).length) Slot.unset).toArray = ls at hl ⊢
  have hl : lv_has ls 1 [(0, .ref a0)] := hl
  generalize hH : s.heap = H at hP ⊢
  have hS : va_S A s.heap H [] := hH ▸ hS
  generalize hLo : ([] : List Loc) = locs at hS ⊢
  clear hH hLo
  unfold m_CS_apart at hm
  refine lv_aload_n hx hb d_CS_apart_0 rfl (lv_at hl 0 rfl) ?_
  refine va_get (D := (dC, dI)) (ci := 0) (v := .ref a0_setFinder) (C := R_CS) (T := T_CS) (N := 11) hx hb htt hin_CS hown hK hP 0 rfl rfl 4 (by decide) (htt _ kt_228) (fun _ h9 => h9) rfl d_CS_apart_1 ?_
  refine lv_aload_n hx hb d_CS_apart_4 rfl (lv_at hl 0 rfl) ?_
  refine va_get (D := (dC, dI)) (ci := 0) (v := .ref a0_net) (C := R_CS) (T := T_CS) (N := 11) hx hb htt hin_CS hown hK hP 0 rfl rfl 0 (by decide) (htt _ kt_224) (fun _ h9 => h9) rfl d_CS_apart_5 ?_
  obtain ⟨⟨q_1, v0_setFinder_best_2, w0_setFinder_fits_3⟩, hc_4, hm⟩ := gM_e hm
  dsimp only at hm
  have hPc : va_P (dC, dI) vwCl (wd_SF_greatestApart cI cJ cG cZ a0_setFinder a0_net a0_setFinder_fits a0_net_near a0_net_tail a0_net_head v0_setFinder_best w0_setFinder_fits v0_net_nodes v0_net_arcCount v0_net_version w0_net_near) H := hP.sub [3, 4, 1, 2] rfl
  have hDc : va_D A (wd_SF_greatestApart cI cJ cG cZ a0_setFinder a0_net a0_setFinder_fits a0_net_near a0_net_tail a0_net_head v0_setFinder_best w0_setFinder_fits v0_net_nodes v0_net_arcCount v0_net_version w0_net_near) := hD.sub [3, 4, 1, 2] (by decide) rfl
  have hFc : ∀ q, va_A (wd_SF_greatestApart cI cJ cG cZ a0_setFinder a0_net a0_setFinder_fits a0_net_near a0_net_tail a0_net_head v0_setFinder_best w0_setFinder_fits v0_net_nodes v0_net_arcCount v0_net_version w0_net_near) H.size q → A q := va_free hD hS hA [3, 4, 1, 2] rfl
  refine va_calli (va_runV (As := [.ref a0_net]) (rest := []) ⟨hx, hb, hml, hown, htt⟩ (c_SF_greatestApart l dC dI cI cJ cG cZ a0_setFinder a0_net a0_setFinder_fits a0_net_near a0_net_tail a0_net_head H.size F v0_setFinder_best w0_setFinder_fits v0_net_nodes v0_net_arcCount v0_net_version w0_net_near q_1 v0_setFinder_best_2 w0_setFinder_fits_3 hc_4) (cwV 1 htt (gdV kt_553 kt_554 kt_555 kt_6 kt_556) rfl rfl rfl (by decide +kernel) ⟨(Nat.le_of_ble_eq_true rfl), (Nat.le_of_ble_eq_true rfl)⟩) ⟨PcS_blind, va_recv hK hPc (ci := 5) (q0 := 0) rfl rfl, PcS_in hPc hK hDc hNw⟩ rfl rfl hl.1 rfl (lv_room (Nat.le_of_ble_eq_true rfl)) d_CS_apart_8 ⟨Nat.zero_le _, Nat.zero_le _⟩) hS (fun q _ h => hFc q h) hFc (fun r_6 u t H1 locs ht hvm hw hB hz1 hk1 hS => ?_)
  obtain ⟨hP1, hK1, hD1⟩ := hB
  rw [ht] at hP1
  subst hw
  obtain ⟨hP, hD⟩ := va_join (wr := [(a0, .inr (0, [.ref a0_net, .ref a0_painter, .ref a0_polynomial, .ref a0_listCounter, .ref a0_setFinder, .ref a0_takingApart, .ref a0_greedyRun, .ref a0_allowed, .ref a0_shown, .ref a0_shades, .ref a0_attempt]))]) (w1 := (wd_SF_greatestApart cI cJ cG cZ a0_setFinder a0_net a0_setFinder_fits a0_net_near a0_net_tail a0_net_head v0_setFinder_best_2 w0_setFinder_fits_3 v0_net_nodes v0_net_arcCount v0_net_version w0_net_near)) hP hD [3, 4, 1, 2] [0] rfl rfl (by decide) (by decide) hk1 hFc hP1 hD1
  have hP : va_P (dC, dI) vwCl (wd_CS_apart cI cJ cG cZ a0 a0_net a0_painter a0_polynomial a0_listCounter a0_setFinder a0_takingApart a0_greedyRun a0_allowed a0_shown a0_shades a0_attempt a0_net_near a0_net_tail a0_net_head a0_setFinder_fits v0_net_nodes v0_net_arcCount v0_net_version w0_net_near v0_setFinder_best_2 w0_setFinder_fits_3) H1 := hP.sub [0, 3, 4, 1, 2] rfl
  have hD : va_D A (wd_CS_apart cI cJ cG cZ a0 a0_net a0_painter a0_polynomial a0_listCounter a0_setFinder a0_takingApart a0_greedyRun a0_allowed a0_shown a0_shades a0_attempt a0_net_near a0_net_tail a0_net_head a0_setFinder_fits v0_net_nodes v0_net_arcCount v0_net_version w0_net_near v0_setFinder_best_2 w0_setFinder_fits_3) := hD.sub [0, 3, 4, 1, 2] (by decide) rfl
  clear hP1 hK1 hD1 hk1 hPc hDc hFc ht hvm hz1
  generalize H1 = H at hP hS ⊢
  cases hm
  exact W.iret hx hb hr (fun t ht hW => ⟨⟨_, (), rfl, rfl, by rw [ht]; exact hP, va_K.moved hW.alike hK, hD⟩, hS.F ht⟩) hS.2.2 d_CS_apart_11
theorem d_CS_chordal_0 : decode prog_1_method_18_code 0 = .ok (.aload_n 0, 1) := by decide +kernel
theorem d_CS_chordal_1 : decode prog_1_method_18_code 1 = .ok (.getfield 47, 3) := by decide +kernel
theorem d_CS_chordal_4 : decode prog_1_method_18_code 4 = .ok (.aload_n 0, 1) := by decide +kernel
theorem d_CS_chordal_5 : decode prog_1_method_18_code 5 = .ok (.getfield 12, 3) := by decide +kernel
theorem d_CS_chordal_8 : decode prog_1_method_18_code 8 = .ok (.invokevirtual 173, 3) := by decide +kernel
theorem d_CS_chordal_11 : decode prog_1_method_18_code 11 = .ok (.aload_n 0, 1) := by decide +kernel
theorem d_CS_chordal_12 : decode prog_1_method_18_code 12 = .ok (.getfield 47, 3) := by decide +kernel
theorem d_CS_chordal_15 : decode prog_1_method_18_code 15 = .ok (.getfield 177, 3) := by decide +kernel
theorem d_CS_chordal_18 : decode prog_1_method_18_code 18 = .ok (.ifCond .ne 7, 3) := by decide +kernel
theorem d_CS_chordal_21 : decode prog_1_method_18_code 21 = .ok (.iconst 1, 1) := by decide +kernel
theorem d_CS_chordal_22 : decode prog_1_method_18_code 22 = .ok (.goto 4, 3) := by decide +kernel
theorem d_CS_chordal_25 : decode prog_1_method_18_code 25 = .ok (.iconst 0, 1) := by decide +kernel
theorem d_CS_chordal_26 : decode prog_1_method_18_code 26 = .ok (.ireturn, 1) := by decide +kernel
abbrev wd_CS_chordal (cI cJ cG cZ : ClassId) (a0 a0_net a0_painter a0_polynomial a0_listCounter a0_setFinder a0_takingApart a0_greedyRun a0_allowed a0_shown a0_shades a0_attempt a0_net_near a0_net_tail a0_net_head a0_takingApart_sequence : Nat) (v0_net_nodes : Int32) (v0_net_arcCount : Int32) (v0_net_version : Int32) (w0_net_near : Nat → Int32) (v0_takingApart_count : Int32) (v0_takingApart_remains : Int32) (w0_takingApart_sequence : Nat → Int32) : va_W := [(a0, .inr (0, [.ref a0_net, .ref a0_painter, .ref a0_polynomial, .ref a0_listCounter, .ref a0_setFinder, .ref a0_takingApart, .ref a0_greedyRun, .ref a0_allowed, .ref a0_shown, .ref a0_shades, .ref a0_attempt])), (a0_net, .inr (1, [.ref a0_net_near, .ref a0_net_tail, .ref a0_net_head, .int v0_net_nodes, .int v0_net_arcCount, .int v0_net_version])), (a0_net_near, .inl (cI, 12, .inl w0_net_near)), (a0_takingApart, .inr (6, [.ref a0_takingApart_sequence, .int v0_takingApart_count, .int v0_takingApart_remains])), (a0_takingApart_sequence, .inl (cI, 12, .inl w0_takingApart_sequence))]
abbrev us_CS_chordal : List Cond := .code y_CS_chordal prog_1_method_18_code 1 (some .int) :: gtbl
abbrev rm_CS_chordal : Room := { frames := 3, cells := 0, slots := 0, locals := 67 }
def m_CS_chordal (F : Nat) (v0_net_nodes : Int32) (v0_net_arcCount : Int32) (v0_net_version : Int32) (w0_net_near : Nat → Int32) (v0_takingApart_count : Int32) (v0_takingApart_remains : Int32) (w0_takingApart_sequence : Nat → Int32) : Option (Int32 × Int32 × Int32 × (Nat → Int32)) :=
  gM (m_TA_run F v0_takingApart_count v0_takingApart_remains w0_takingApart_sequence v0_net_nodes v0_net_arcCount v0_net_version w0_net_near) (fun (z_5 : Int32 × Int32 × (Nat → Int32)) => match z_5 with
  | (v0_takingApart_count_1, v0_takingApart_remains_2, w0_takingApart_sequence_3) =>
  if v0_takingApart_remains_2 = 0 then (
    some (1, v0_takingApart_count_1, v0_takingApart_remains_2, w0_takingApart_sequence_3)
  ) else (
    some (0, v0_takingApart_count_1, v0_takingApart_remains_2, w0_takingApart_sequence_3)
  ))
set_option maxHeartbeats 4000000 in
set_option maxRecDepth 100000 in
theorem c_CS_chordal (l : Launch) (dC : Nat → ClassId) (dI : Nat → Nat → Nat) (cI cJ cG cZ : ClassId) (a0 a0_net a0_painter a0_polynomial a0_listCounter a0_setFinder a0_takingApart a0_greedyRun a0_allowed a0_shown a0_shades a0_attempt a0_net_near a0_net_tail a0_net_head a0_takingApart_sequence : Nat) (sz : Nat) (F : Nat) (v0_net_nodes : Int32) (v0_net_arcCount : Int32) (v0_net_version : Int32) (w0_net_near : Nat → Int32) (v0_takingApart_count : Int32) (v0_takingApart_remains : Int32) (w0_takingApart_sequence : Nat → Int32) (ret : Int32) (o_v0_takingApart_count : Int32) (o_v0_takingApart_remains : Int32) (o_w0_takingApart_sequence : Nat → Int32) (hm : m_CS_chordal F v0_net_nodes v0_net_arcCount v0_net_version w0_net_near v0_takingApart_count v0_takingApart_remains w0_takingApart_sequence = some (ret, o_v0_takingApart_count, o_v0_takingApart_remains, o_w0_takingApart_sequence)) : Met l y_CS_chordal us_CS_chordal rm_CS_chordal (PcS (dC, dI) (tyL cI cJ cG cZ) [.ref a0] sz (wd_CS_chordal cI cJ cG cZ a0 a0_net a0_painter a0_polynomial a0_listCounter a0_setFinder a0_takingApart a0_greedyRun a0_allowed a0_shown a0_shades a0_attempt a0_net_near a0_net_tail a0_net_head a0_takingApart_sequence v0_net_nodes v0_net_arcCount v0_net_version w0_net_near v0_takingApart_count v0_takingApart_remains w0_takingApart_sequence)) (va_Qi (fun (r : Int32) (_ : Unit) => ret = r) (fun _ t => PoS (dC, dI) (tyL cI cJ cG cZ) (wd_CS_chordal cI cJ cG cZ a0 a0_net a0_painter a0_polynomial a0_listCounter a0_setFinder a0_takingApart a0_greedyRun a0_allowed a0_shown a0_shades a0_attempt a0_net_near a0_net_tail a0_net_head a0_takingApart_sequence v0_net_nodes v0_net_arcCount v0_net_version w0_net_near o_v0_takingApart_count o_v0_takingApart_remains o_w0_takingApart_sequence) (va_A (wd_CS_chordal cI cJ cG cZ a0 a0_net a0_painter a0_polynomial a0_listCounter a0_setFinder a0_takingApart a0_greedyRun a0_allowed a0_shown a0_shades a0_attempt a0_net_near a0_net_tail a0_net_head a0_takingApart_sequence v0_net_nodes v0_net_arcCount v0_net_version w0_net_near v0_takingApart_count v0_takingApart_remains w0_takingApart_sequence) sz) t) (va_A (wd_CS_chordal cI cJ cG cZ a0 a0_net a0_painter a0_polynomial a0_listCounter a0_setFinder a0_takingApart a0_greedyRun a0_allowed a0_shown a0_shades a0_attempt a0_net_near a0_net_tail a0_net_head a0_takingApart_sequence v0_net_nodes v0_net_arcCount v0_net_version w0_net_near v0_takingApart_count v0_takingApart_remains w0_takingApart_sequence) sz)) 0 0 (va_A (wd_CS_chordal cI cJ cG cZ a0 a0_net a0_painter a0_polynomial a0_listCounter a0_setFinder a0_takingApart a0_greedyRun a0_allowed a0_shown a0_shades a0_attempt a0_net_near a0_net_tail a0_net_head a0_takingApart_sequence v0_net_nodes v0_net_arcCount v0_net_version w0_net_near v0_takingApart_count v0_takingApart_remains w0_takingApart_sequence) sz) := by
  refine Met.ofW (cc := prog_1_method_18_code) (maxL := 1) (ret := (some .int)) (by decide) rfl ?_
  intro p e s m args below meth c s₁ B hml hv
  obtain ⟨rfl, hsz, hP, hK, hD0, hNw⟩ := hv
  have hx := B.exec
  have hb := B.bytes
  have hr := B.returns
  have htt : ∀ w ∈ gtbl, w.before _ s = true := fun w h => atoms_spec (ws := us_CS_chordal) B.pre w (List.mem_cons_of_mem _ h)
  have hown : s.vm.findClass R_CS = some m.cls := findClass_of_methodNamed B.named
  have hlocks := B.notSynchronized
  subst hsz
  have hD := hD0.self (sz := s.heap.size)
  generalize hAe : va_A (wd_CS_chordal cI cJ cG cZ a0 a0_net a0_painter a0_polynomial a0_listCounter a0_setFinder a0_takingApart a0_greedyRun a0_allowed a0_shown a0_shades a0_attempt a0_net_near a0_net_tail a0_net_head a0_takingApart_sequence v0_net_nodes v0_net_arcCount v0_net_version w0_net_near v0_takingApart_count v0_takingApart_remains w0_takingApart_sequence) s.heap.size = A at hD ⊢
  have hA : ∀ q : Nat, s.heap.size ≤ q → A q := fun q h => by rw [← hAe]; exact Or.inr h
  clear hAe hD0
  have hS : va_S A s.heap s.heap [] := va_S.rf
  have hl := lv_entry ([.ref a0]) (n := 1) (Nat.le_of_ble_eq_true rfl)
  rw [lg_entry_eq]
  generalize (lg_sl ([.ref a0]) ++ List.replicate (1 - (lg_sl ([.ref a0])).length) Slot.unset).toArray = ls at hl ⊢
  have hl : lv_has ls 1 [(0, .ref a0)] := hl
  generalize hH : s.heap = H at hP ⊢
  have hS : va_S A s.heap H [] := hH ▸ hS
  generalize hLo : ([] : List Loc) = locs at hS ⊢
  clear hH hLo
  unfold m_CS_chordal at hm
  refine lv_aload_n hx hb d_CS_chordal_0 rfl (lv_at hl 0 rfl) ?_
  refine va_get (D := (dC, dI)) (ci := 0) (v := .ref a0_takingApart) (C := R_CS) (T := T_CS) (N := 11) hx hb htt hin_CS hown hK hP 0 rfl rfl 5 (by decide) (htt _ kt_229) (fun _ h9 => h9) rfl d_CS_chordal_1 ?_
  refine lv_aload_n hx hb d_CS_chordal_4 rfl (lv_at hl 0 rfl) ?_
  refine va_get (D := (dC, dI)) (ci := 0) (v := .ref a0_net) (C := R_CS) (T := T_CS) (N := 11) hx hb htt hin_CS hown hK hP 0 rfl rfl 0 (by decide) (htt _ kt_224) (fun _ h9 => h9) rfl d_CS_chordal_5 ?_
  obtain ⟨⟨v0_takingApart_count_1, v0_takingApart_remains_2, w0_takingApart_sequence_3⟩, hc_4, hm⟩ := gM_e hm
  dsimp only at hm
  have hPc : va_P (dC, dI) vwCl (wd_TA_run cI cJ cG cZ a0_takingApart a0_net a0_takingApart_sequence a0_net_near a0_net_tail a0_net_head v0_takingApart_count v0_takingApart_remains w0_takingApart_sequence v0_net_nodes v0_net_arcCount v0_net_version w0_net_near) H := hP.sub [3, 4, 1, 2] rfl
  have hDc : va_D A (wd_TA_run cI cJ cG cZ a0_takingApart a0_net a0_takingApart_sequence a0_net_near a0_net_tail a0_net_head v0_takingApart_count v0_takingApart_remains w0_takingApart_sequence v0_net_nodes v0_net_arcCount v0_net_version w0_net_near) := hD.sub [3, 4, 1, 2] (by decide) rfl
  have hFc : ∀ q, va_A (wd_TA_run cI cJ cG cZ a0_takingApart a0_net a0_takingApart_sequence a0_net_near a0_net_tail a0_net_head v0_takingApart_count v0_takingApart_remains w0_takingApart_sequence v0_net_nodes v0_net_arcCount v0_net_version w0_net_near) H.size q → A q := va_free hD hS hA [3, 4, 1, 2] rfl
  refine va_callv (va_runV (As := [.ref a0_net]) (rest := []) ⟨hx, hb, hml, hown, htt⟩ (c_TA_run l dC dI cI cJ cG cZ a0_takingApart a0_net a0_takingApart_sequence a0_net_near a0_net_tail a0_net_head H.size F v0_takingApart_count v0_takingApart_remains w0_takingApart_sequence v0_net_nodes v0_net_arcCount v0_net_version w0_net_near v0_takingApart_count_1 v0_takingApart_remains_2 w0_takingApart_sequence_3 hc_4) (cwV 1 htt (gdV kt_561 kt_562 kt_563 kt_7 kt_564) rfl rfl rfl (by decide +kernel) ⟨(Nat.le_of_ble_eq_true rfl), (Nat.le_of_ble_eq_true rfl)⟩) ⟨PcS_blind, va_recv hK hPc (ci := 6) (q0 := 0) rfl rfl, PcS_in hPc hK hDc hNw⟩ rfl rfl hl.1 rfl (lv_room (Nat.le_of_ble_eq_true rfl)) d_CS_chordal_8 ⟨Nat.zero_le _, Nat.zero_le _⟩) hS (fun q _ h => hFc q h) hFc (fun u t H1 locs ht hvm hw hB hz1 hk1 hS => ?_)
  obtain ⟨hP1, hK1, hD1⟩ := hB
  rw [ht] at hP1
  obtain ⟨hP, hD⟩ := va_join (wr := [(a0, .inr (0, [.ref a0_net, .ref a0_painter, .ref a0_polynomial, .ref a0_listCounter, .ref a0_setFinder, .ref a0_takingApart, .ref a0_greedyRun, .ref a0_allowed, .ref a0_shown, .ref a0_shades, .ref a0_attempt]))]) (w1 := (wd_TA_run cI cJ cG cZ a0_takingApart a0_net a0_takingApart_sequence a0_net_near a0_net_tail a0_net_head v0_takingApart_count_1 v0_takingApart_remains_2 w0_takingApart_sequence_3 v0_net_nodes v0_net_arcCount v0_net_version w0_net_near)) hP hD [3, 4, 1, 2] [0] rfl rfl (by decide) (by decide) hk1 hFc hP1 hD1
  have hP : va_P (dC, dI) vwCl (wd_CS_chordal cI cJ cG cZ a0 a0_net a0_painter a0_polynomial a0_listCounter a0_setFinder a0_takingApart a0_greedyRun a0_allowed a0_shown a0_shades a0_attempt a0_net_near a0_net_tail a0_net_head a0_takingApart_sequence v0_net_nodes v0_net_arcCount v0_net_version w0_net_near v0_takingApart_count_1 v0_takingApart_remains_2 w0_takingApart_sequence_3) H1 := hP.sub [0, 3, 4, 1, 2] rfl
  have hD : va_D A (wd_CS_chordal cI cJ cG cZ a0 a0_net a0_painter a0_polynomial a0_listCounter a0_setFinder a0_takingApart a0_greedyRun a0_allowed a0_shown a0_shades a0_attempt a0_net_near a0_net_tail a0_net_head a0_takingApart_sequence v0_net_nodes v0_net_arcCount v0_net_version w0_net_near v0_takingApart_count_1 v0_takingApart_remains_2 w0_takingApart_sequence_3) := hD.sub [0, 3, 4, 1, 2] (by decide) rfl
  clear hP1 hK1 hD1 hk1 hPc hDc hFc ht hvm hz1
  generalize H1 = H at hP hS ⊢
  refine lv_aload_n hx hb d_CS_chordal_11 rfl (lv_at hl 0 rfl) ?_
  refine va_get (D := (dC, dI)) (ci := 0) (v := .ref a0_takingApart) (C := R_CS) (T := T_CS) (N := 11) hx hb htt hin_CS hown hK hP 0 rfl rfl 5 (by decide) (htt _ kt_229) (fun _ h9 => h9) rfl d_CS_chordal_12 ?_
  refine va_get (D := (dC, dI)) (ci := 6) (v := .int v0_takingApart_remains_2) (C := R_TA) (T := T_TA) (N := 3) hx hb htt hin_TA hown hK hP 3 rfl rfl 2 (by decide) (htt _ kt_198) (fun _ h9 => h9) rfl d_CS_chordal_15 ?_
  refine lv_if_ne (tgt := 25) hx hb d_CS_chordal_18 (by decide) (fun c_6 => ?_) (fun c_6 => ?_)
  · have hm := ite_f c_6 hm
    refine lv_iconst (v := 0) hx hb d_CS_chordal_25 (by decide) ?_
    cases hm
    exact W.iret hx hb hr (fun t ht hW => ⟨⟨_, (), rfl, rfl, by rw [ht]; exact hP, va_K.moved hW.alike hK, hD⟩, hS.F ht⟩) hS.2.2 d_CS_chordal_26
  · have hm := ite_t c_6 hm
    refine lv_iconst (v := 1) hx hb d_CS_chordal_21 (by decide) ?_
    refine lv_goto (tgt := 26) hx hb d_CS_chordal_22 (by decide) ?_
    cases hm
    exact W.iret hx hb hr (fun t ht hW => ⟨⟨_, (), rfl, rfl, by rw [ht]; exact hP, va_K.moved hW.alike hK, hD⟩, hS.F ht⟩) hS.2.2 d_CS_chordal_26
