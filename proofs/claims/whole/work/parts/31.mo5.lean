theorem d_Mo_arcs_0 : decode prog_10_method_30_code 0 = .ok (.aload_n 0, 1) := by decide +kernel
theorem d_Mo_arcs_1 : decode prog_10_method_30_code 1 = .ok (.aload_n 0, 1) := by decide +kernel
theorem d_Mo_arcs_2 : decode prog_10_method_30_code 2 = .ok (.getfield 89, 3) := by decide +kernel
theorem d_Mo_arcs_5 : decode prog_10_method_30_code 5 = .ok (.bipush 16, 2) := by decide +kernel
theorem d_Mo_arcs_7 : decode prog_10_method_30_code 7 = .ok (.if_icmp .le 7, 3) := by decide +kernel
theorem d_Mo_arcs_10 : decode prog_10_method_30_code 10 = .ok (.iconst 1, 1) := by decide +kernel
theorem d_Mo_arcs_11 : decode prog_10_method_30_code 11 = .ok (.goto 4, 3) := by decide +kernel
theorem d_Mo_arcs_14 : decode prog_10_method_30_code 14 = .ok (.iconst 0, 1) := by decide +kernel
theorem d_Mo_arcs_15 : decode prog_10_method_30_code 15 = .ok (.putfield 79, 3) := by decide +kernel
theorem d_Mo_arcs_18 : decode prog_10_method_30_code 18 = .ok (.aload_n 0, 1) := by decide +kernel
theorem d_Mo_arcs_19 : decode prog_10_method_30_code 19 = .ok (.getfield 79, 3) := by decide +kernel
theorem d_Mo_arcs_22 : decode prog_10_method_30_code 22 = .ok (.ifCond .le 5, 3) := by decide +kernel
theorem d_Mo_arcs_25 : decode prog_10_method_30_code 25 = .ok (.iconst 0, 1) := by decide +kernel
theorem d_Mo_arcs_26 : decode prog_10_method_30_code 26 = .ok (.ireturn, 1) := by decide +kernel
theorem d_Mo_arcs_27 : decode prog_10_method_30_code 27 = .ok (.iconst 0, 1) := by decide +kernel
theorem d_Mo_arcs_28 : decode prog_10_method_30_code 28 = .ok (.istore_n 1, 1) := by decide +kernel
theorem d_Mo_arcs_29 : decode prog_10_method_30_code 29 = .ok (.aload_n 0, 1) := by decide +kernel
theorem d_Mo_arcs_30 : decode prog_10_method_30_code 30 = .ok (.iload_n 1, 1) := by decide +kernel
theorem d_Mo_arcs_31 : decode prog_10_method_30_code 31 = .ok (.invokevirtual 142, 3) := by decide +kernel
theorem d_Mo_arcs_34 : decode prog_10_method_30_code 34 = .ok (.ifCond .ne 9, 3) := by decide +kernel
theorem d_Mo_arcs_37 : decode prog_10_method_30_code 37 = .ok (.iinc 1 1, 3) := by decide +kernel
theorem d_Mo_arcs_40 : decode prog_10_method_30_code 40 = .ok (.goto (-11), 3) := by decide +kernel
theorem d_Mo_arcs_43 : decode prog_10_method_30_code 43 = .ok (.iconst 0, 1) := by decide +kernel
theorem d_Mo_arcs_44 : decode prog_10_method_30_code 44 = .ok (.istore_n 2, 1) := by decide +kernel
theorem d_Mo_arcs_45 : decode prog_10_method_30_code 45 = .ok (.iload_n 2, 1) := by decide +kernel
theorem d_Mo_arcs_46 : decode prog_10_method_30_code 46 = .ok (.bipush 40, 2) := by decide +kernel
theorem d_Mo_arcs_48 : decode prog_10_method_30_code 48 = .ok (.if_icmp .ge 33, 3) := by decide +kernel
theorem d_Mo_arcs_51 : decode prog_10_method_30_code 51 = .ok (.aload_n 0, 1) := by decide +kernel
theorem d_Mo_arcs_52 : decode prog_10_method_30_code 52 = .ok (.getfield 25, 3) := by decide +kernel
theorem d_Mo_arcs_55 : decode prog_10_method_30_code 55 = .ok (.iload_n 2, 1) := by decide +kernel
theorem d_Mo_arcs_56 : decode prog_10_method_30_code 56 = .ok (.iload_n 2, 1) := by decide +kernel
theorem d_Mo_arcs_57 : decode prog_10_method_30_code 57 = .ok (.aload_n 0, 1) := by decide +kernel
theorem d_Mo_arcs_58 : decode prog_10_method_30_code 58 = .ok (.getfield 89, 3) := by decide +kernel
theorem d_Mo_arcs_61 : decode prog_10_method_30_code 61 = .ok (.if_icmp .ge 12, 3) := by decide +kernel
theorem d_Mo_arcs_64 : decode prog_10_method_30_code 64 = .ok (.aload_n 0, 1) := by decide +kernel
theorem d_Mo_arcs_65 : decode prog_10_method_30_code 65 = .ok (.getfield 67, 3) := by decide +kernel
theorem d_Mo_arcs_68 : decode prog_10_method_30_code 68 = .ok (.iload_n 2, 1) := by decide +kernel
theorem d_Mo_arcs_69 : decode prog_10_method_30_code 69 = .ok (.iaload, 1) := by decide +kernel
theorem d_Mo_arcs_70 : decode prog_10_method_30_code 70 = .ok (.goto 4, 3) := by decide +kernel
theorem d_Mo_arcs_73 : decode prog_10_method_30_code 73 = .ok (.iconst (-1), 1) := by decide +kernel
theorem d_Mo_arcs_74 : decode prog_10_method_30_code 74 = .ok (.iastore, 1) := by decide +kernel
theorem d_Mo_arcs_75 : decode prog_10_method_30_code 75 = .ok (.iinc 2 1, 3) := by decide +kernel
theorem d_Mo_arcs_78 : decode prog_10_method_30_code 78 = .ok (.goto (-33), 3) := by decide +kernel
theorem d_Mo_arcs_81 : decode prog_10_method_30_code 81 = .ok (.iload_n 1, 1) := by decide +kernel
theorem d_Mo_arcs_82 : decode prog_10_method_30_code 82 = .ok (.ireturn, 1) := by decide +kernel
abbrev wd_Mo_arcs (cI cJ cG cZ : ClassId) (a0 a0_from a0_to a0_near a0_lists a0_colours a0_shades a0_tints a0_attempt a0_taken a0_isApart a0_ways a0_next a0_splits a0_powers a0_row a0_many a0_can a0_could a0_arcRow a0_order a0_isOut : Nat) (v0_thrown : Int32) (v0_nodes : Int32) (v0_arcs : Int32) (v0_takenMany : Int32) (v0_leftBits : Int32) (v0_hasPolynomial : Int32) (v0_hasLists : Int32) (w0_from : Nat → Int32) (w0_to : Nat → Int32) (w0_shades : Nat → Int32) (w0_arcRow : Nat → Int32) : va_W := [(a0, .inr (8, [.int v0_thrown, .int v0_nodes, .int v0_arcs, .ref a0_from, .ref a0_to, .ref a0_near, .ref a0_lists, .ref a0_colours, .ref a0_shades, .ref a0_tints, .ref a0_attempt, .int v0_takenMany, .ref a0_taken, .int v0_leftBits, .ref a0_isApart, .ref a0_ways, .ref a0_next, .ref a0_splits, .ref a0_powers, .ref a0_row, .ref a0_many, .int v0_hasPolynomial, .int v0_hasLists, .ref a0_can, .ref a0_could, .ref a0_arcRow, .ref a0_order, .ref a0_isOut])), (a0_from, .inl (cI, 40, .inl w0_from)), (a0_to, .inl (cI, 40, .inl w0_to)), (a0_shades, .inl (cI, 40, .inl w0_shades)), (a0_arcRow, .inl (cI, 40, .inl w0_arcRow))]
abbrev us_Mo_arcs : List Cond := .code y_Mo_arcs prog_10_method_30_code 3 (some .int) :: gtbl
abbrev rm_Mo_arcs : Room := { frames := 2, cells := 0, slots := 0, locals := 50 }
def m_Mo_arcs (F : Nat) (v0_thrown : Int32) (v0_nodes : Int32) (v0_arcs : Int32) (v0_takenMany : Int32) (v0_leftBits : Int32) (v0_hasPolynomial : Int32) (v0_hasLists : Int32) (w0_from : Nat → Int32) (w0_to : Nat → Int32) (w0_shades : Nat → Int32) (w0_arcRow : Nat → Int32) : Option (Int32 × Int32 × (Nat → Int32) × (Nat → Int32)) :=
  gB (α := Int32 → Option (Int32 × Int32 × (Nat → Int32) × (Nat → Int32))) (fun s_1 =>
    if s_1 ≤ 0 then (
      gL (fun (k_29 : (Int32 × (Nat → Int32)) → Option (Int32 × Int32 × (Nat → Int32) × (Nat → Int32))) (z_29 : Int32 × (Nat → Int32)) => match z_29 with
      | (x1_3, w0_arcRow_4) =>
      gM (m_Mo_searchArcs F s_1 v0_nodes v0_arcs v0_takenMany v0_leftBits v0_hasPolynomial v0_hasLists w0_from w0_to w0_arcRow_4 x1_3) (fun (z_8 : Int32 × (Nat → Int32)) => match z_8 with
      | (q_5, w0_arcRow_6) =>
      if q_5 = 0 then (
        gB (x1_3 + 1) (fun x1_20 =>
        k_29 (x1_20, w0_arcRow_6))
      ) else (
        gL (fun (k_45 : (Int32 × (Nat → Int32)) → Option (Int32 × Int32 × (Nat → Int32) × (Nat → Int32))) (z_45 : Int32 × (Nat → Int32)) => match z_45 with
        | (x2_12, w0_shades_13) =>
        if (40 : Int32) ≤ x2_12 then (
          some (x1_3, s_1, w0_shades_13, w0_arcRow_6)
        ) else (
          gB (α := Int32 → Option (Int32 × Int32 × (Nat → Int32) × (Nat → Int32))) (fun s_15 =>
            gC (inb x2_12 40) (
            gB (x2_12 + 1) (fun x2_17 =>
            k_45 (x2_17, upd w0_shades_13 x2_12.toNatClampNeg s_15)))
          ) (fun J_74 =>
          if v0_arcs ≤ x2_12 then (
            J_74 (-1)
          ) else (
            gC (inb x2_12 40) (
            J_74 (w0_arcRow_6 x2_12.toNatClampNeg))
          )
          )
        )
        ) F (0, w0_shades)
      ))
      ) F (0, w0_arcRow)
    ) else (
      some (0, s_1, w0_shades, w0_arcRow)
    )
  ) (fun J_15 =>
  if v0_arcs ≤ (16 : Int32) then (
    J_15 0
  ) else (
    J_15 1
  )
  )
set_option maxHeartbeats 4000000 in
set_option maxRecDepth 100000 in
theorem c_Mo_arcs (l : Launch) (dC : Nat → ClassId) (dI : Nat → Nat → Nat) (cI cJ cG cZ : ClassId) (a0 a0_from a0_to a0_near a0_lists a0_colours a0_shades a0_tints a0_attempt a0_taken a0_isApart a0_ways a0_next a0_splits a0_powers a0_row a0_many a0_can a0_could a0_arcRow a0_order a0_isOut : Nat) (sz : Nat) (F : Nat) (v0_thrown : Int32) (v0_nodes : Int32) (v0_arcs : Int32) (v0_takenMany : Int32) (v0_leftBits : Int32) (v0_hasPolynomial : Int32) (v0_hasLists : Int32) (w0_from : Nat → Int32) (w0_to : Nat → Int32) (w0_shades : Nat → Int32) (w0_arcRow : Nat → Int32) (ret : Int32) (o_v0_thrown : Int32) (o_w0_shades : Nat → Int32) (o_w0_arcRow : Nat → Int32) (hm : m_Mo_arcs F v0_thrown v0_nodes v0_arcs v0_takenMany v0_leftBits v0_hasPolynomial v0_hasLists w0_from w0_to w0_shades w0_arcRow = some (ret, o_v0_thrown, o_w0_shades, o_w0_arcRow)) : Met l y_Mo_arcs us_Mo_arcs rm_Mo_arcs (PcS (dC, dI) (tyL cI cJ cG cZ) [.ref a0] sz (wd_Mo_arcs cI cJ cG cZ a0 a0_from a0_to a0_near a0_lists a0_colours a0_shades a0_tints a0_attempt a0_taken a0_isApart a0_ways a0_next a0_splits a0_powers a0_row a0_many a0_can a0_could a0_arcRow a0_order a0_isOut v0_thrown v0_nodes v0_arcs v0_takenMany v0_leftBits v0_hasPolynomial v0_hasLists w0_from w0_to w0_shades w0_arcRow)) (va_Qi (fun (r : Int32) (_ : Unit) => ret = r) (fun _ t => PoS (dC, dI) (tyL cI cJ cG cZ) (wd_Mo_arcs cI cJ cG cZ a0 a0_from a0_to a0_near a0_lists a0_colours a0_shades a0_tints a0_attempt a0_taken a0_isApart a0_ways a0_next a0_splits a0_powers a0_row a0_many a0_can a0_could a0_arcRow a0_order a0_isOut o_v0_thrown v0_nodes v0_arcs v0_takenMany v0_leftBits v0_hasPolynomial v0_hasLists w0_from w0_to o_w0_shades o_w0_arcRow) (va_A (wd_Mo_arcs cI cJ cG cZ a0 a0_from a0_to a0_near a0_lists a0_colours a0_shades a0_tints a0_attempt a0_taken a0_isApart a0_ways a0_next a0_splits a0_powers a0_row a0_many a0_can a0_could a0_arcRow a0_order a0_isOut v0_thrown v0_nodes v0_arcs v0_takenMany v0_leftBits v0_hasPolynomial v0_hasLists w0_from w0_to w0_shades w0_arcRow) sz) t) (va_A (wd_Mo_arcs cI cJ cG cZ a0 a0_from a0_to a0_near a0_lists a0_colours a0_shades a0_tints a0_attempt a0_taken a0_isApart a0_ways a0_next a0_splits a0_powers a0_row a0_many a0_can a0_could a0_arcRow a0_order a0_isOut v0_thrown v0_nodes v0_arcs v0_takenMany v0_leftBits v0_hasPolynomial v0_hasLists w0_from w0_to w0_shades w0_arcRow) sz)) 0 0 (va_A (wd_Mo_arcs cI cJ cG cZ a0 a0_from a0_to a0_near a0_lists a0_colours a0_shades a0_tints a0_attempt a0_taken a0_isApart a0_ways a0_next a0_splits a0_powers a0_row a0_many a0_can a0_could a0_arcRow a0_order a0_isOut v0_thrown v0_nodes v0_arcs v0_takenMany v0_leftBits v0_hasPolynomial v0_hasLists w0_from w0_to w0_shades w0_arcRow) sz) := by
  refine Met.ofW (cc := prog_10_method_30_code) (maxL := 3) (ret := (some .int)) (by decide) rfl ?_
  intro p e s m args below meth c s₁ B hml hv
  obtain ⟨rfl, hsz, hP, hK, hD0, hNw⟩ := hv
  have hx := B.exec
  have hb := B.bytes
  have hr := B.returns
  have htt : ∀ w ∈ gtbl, w.before _ s = true := fun w h => atoms_spec (ws := us_Mo_arcs) B.pre w (List.mem_cons_of_mem _ h)
  have hown : s.vm.findClass R_Mo = some m.cls := findClass_of_methodNamed B.named
  have hlocks := B.notSynchronized
  subst hsz
  have hD := hD0.self (sz := s.heap.size)
  generalize hAe : va_A (wd_Mo_arcs cI cJ cG cZ a0 a0_from a0_to a0_near a0_lists a0_colours a0_shades a0_tints a0_attempt a0_taken a0_isApart a0_ways a0_next a0_splits a0_powers a0_row a0_many a0_can a0_could a0_arcRow a0_order a0_isOut v0_thrown v0_nodes v0_arcs v0_takenMany v0_leftBits v0_hasPolynomial v0_hasLists w0_from w0_to w0_shades w0_arcRow) s.heap.size = A at hD ⊢
  have hA : ∀ q : Nat, s.heap.size ≤ q → A q := fun q h => by rw [← hAe]; exact Or.inr h
  clear hAe hD0
  have hS : va_S A s.heap s.heap [] := va_S.rf
  have hl := lv_entry ([.ref a0]) (n := 3) (Nat.le_of_ble_eq_true rfl)
  rw [lg_entry_eq]
  generalize (lg_sl ([.ref a0]) ++ List.replicate (3 - (lg_sl ([.ref a0])).length) Slot.unset).toArray = ls at hl ⊢
  have hl : lv_has ls 3 [(0, .ref a0)] := hl
  generalize hH : s.heap = H at hP ⊢
  have hS : va_S A s.heap H [] := hH ▸ hS
  generalize hLo : ([] : List Loc) = locs at hS ⊢
  clear hH hLo
  unfold m_Mo_arcs at hm
  refine lv_aload_n hx hb d_Mo_arcs_0 rfl (lv_at hl 0 rfl) ?_
  refine lv_aload_n hx hb d_Mo_arcs_1 rfl (lv_at hl 0 rfl) ?_
  refine va_get (D := (dC, dI)) (ci := 8) (v := .int v0_arcs) (C := R_Mo) (T := T_Mo) (N := 28) hx hb htt hin_Mo hown hK hP 0 rfl rfl 2 (by decide) (htt _ kt_771) (fun _ h9 => h9) rfl d_Mo_arcs_2 ?_
  refine lv_bipush (v := 16) hx hb d_Mo_arcs_5 (by decide) ?_
  obtain ⟨J_15, hJ_15, hm⟩ := gB_x hm
  have jp_15 : ∀ (s_1 : Int32) (ls : Array Slot) (H : Heap) (locs : List Loc), J_15 s_1 = some (ret, o_v0_thrown, o_w0_shades, o_w0_arcRow) → lv_has ls 3 [(0, .ref a0)] → va_P (dC, dI) vwCl (wd_Mo_arcs cI cJ cG cZ a0 a0_from a0_to a0_near a0_lists a0_colours a0_shades a0_tints a0_attempt a0_taken a0_isApart a0_ways a0_next a0_splits a0_powers a0_row a0_many a0_can a0_could a0_arcRow a0_order a0_isOut v0_thrown v0_nodes v0_arcs v0_takenMany v0_leftBits v0_hasPolynomial v0_hasLists w0_from w0_to w0_shades w0_arcRow) H → va_D A (wd_Mo_arcs cI cJ cG cZ a0 a0_from a0_to a0_near a0_lists a0_colours a0_shades a0_tints a0_attempt a0_taken a0_isApart a0_ways a0_next a0_splits a0_powers a0_row a0_many a0_can a0_could a0_arcRow a0_order a0_isOut v0_thrown v0_nodes v0_arcs v0_takenMany v0_leftBits v0_hasPolynomial v0_hasLists w0_from w0_to w0_shades w0_arcRow) → va_S A s.heap H locs → W p l e (headSpec us_Mo_arcs rm_Mo_arcs).room s m ([.ref a0] : List Value).toArray below meth c H locs 0 0 (MQ below (va_Qi (fun (r : Int32) (_ : Unit) => ret = r) (fun _ t => PoS (dC, dI) (tyL cI cJ cG cZ) (wd_Mo_arcs cI cJ cG cZ a0 a0_from a0_to a0_near a0_lists a0_colours a0_shades a0_tints a0_attempt a0_taken a0_isApart a0_ways a0_next a0_splits a0_powers a0_row a0_many a0_can a0_could a0_arcRow a0_order a0_isOut o_v0_thrown v0_nodes v0_arcs v0_takenMany v0_leftBits v0_hasPolynomial v0_hasLists w0_from w0_to o_w0_shades o_w0_arcRow) A t) A) ([.ref a0] : List Value).toArray s 0 0 A) (F0 m 15 ls [.int s_1, .ref a0]) := by
    intro s_1 ls H locs hm hl hP hD hS
    have hm := jn1 hJ_15 hm
    refine va_put (D := (dC, dI)) (ci := 8) (v := .int s_1) (ty := .int) (C := R_Mo) (T := T_Mo) (N := 28) hx hb htt hin_Mo ty_Mo tyok_Mo nm_Mo hown hK hP hD hS 0 rfl rfl 0 (by decide) (htt _ kt_769) (fun _ h9 => h9) rfl (by decide +kernel) rfl rfl (Nat.le_of_ble_eq_true rfl) d_Mo_arcs_15 (fun H locs hP hD hS => ?_)
    have hP : va_P (dC, dI) vwCl (wd_Mo_arcs cI cJ cG cZ a0 a0_from a0_to a0_near a0_lists a0_colours a0_shades a0_tints a0_attempt a0_taken a0_isApart a0_ways a0_next a0_splits a0_powers a0_row a0_many a0_can a0_could a0_arcRow a0_order a0_isOut s_1 v0_nodes v0_arcs v0_takenMany v0_leftBits v0_hasPolynomial v0_hasLists w0_from w0_to w0_shades w0_arcRow) H := hP
    have hD : va_D A (wd_Mo_arcs cI cJ cG cZ a0 a0_from a0_to a0_near a0_lists a0_colours a0_shades a0_tints a0_attempt a0_taken a0_isApart a0_ways a0_next a0_splits a0_powers a0_row a0_many a0_can a0_could a0_arcRow a0_order a0_isOut s_1 v0_nodes v0_arcs v0_takenMany v0_leftBits v0_hasPolynomial v0_hasLists w0_from w0_to w0_shades w0_arcRow) := hD
    refine lv_aload_n hx hb d_Mo_arcs_18 rfl (lv_at hl 0 rfl) ?_
    refine va_get (D := (dC, dI)) (ci := 8) (v := .int s_1) (C := R_Mo) (T := T_Mo) (N := 28) hx hb htt hin_Mo hown hK hP 0 rfl rfl 0 (by decide) (htt _ kt_769) (fun _ h9 => h9) rfl d_Mo_arcs_19 ?_
    refine lv_if_le (tgt := 27) hx hb d_Mo_arcs_22 (by decide) (fun c_2 => ?_) (fun c_2 => ?_)
    · have hm := ite_t c_2 hm
      refine lv_iconst (v := 0) hx hb d_Mo_arcs_27 (by decide) ?_
      refine lv_istore_n (lv' := [(1, .int 0), (0, .ref a0)]) hx hb d_Mo_arcs_28 rfl hl (by decide) rfl (fun ls hl => ?_)
      refine gL_e (P := (fun (z_29 : Int32 × (Nat → Int32)) => ∀ (x1_3 : Int32), ∀ (w0_arcRow_4 : Nat → Int32), z_29 = (x1_3, w0_arcRow_4) → ∀ (ls : Array Slot) (H : Heap) (locs : List Loc), lv_has ls 3 [(0, .ref a0), (1, .int x1_3)] → va_P (dC, dI) vwCl (wd_Mo_arcs cI cJ cG cZ a0 a0_from a0_to a0_near a0_lists a0_colours a0_shades a0_tints a0_attempt a0_taken a0_isApart a0_ways a0_next a0_splits a0_powers a0_row a0_many a0_can a0_could a0_arcRow a0_order a0_isOut s_1 v0_nodes v0_arcs v0_takenMany v0_leftBits v0_hasPolynomial v0_hasLists w0_from w0_to w0_shades w0_arcRow_4) H → va_D A (wd_Mo_arcs cI cJ cG cZ a0 a0_from a0_to a0_near a0_lists a0_colours a0_shades a0_tints a0_attempt a0_taken a0_isApart a0_ways a0_next a0_splits a0_powers a0_row a0_many a0_can a0_could a0_arcRow a0_order a0_isOut s_1 v0_nodes v0_arcs v0_takenMany v0_leftBits v0_hasPolynomial v0_hasLists w0_from w0_to w0_shades w0_arcRow_4) → va_S A s.heap H locs → W p l e (headSpec us_Mo_arcs rm_Mo_arcs).room s m ([.ref a0] : List Value).toArray below meth c H locs 0 0 (MQ below (va_Qi (fun (r : Int32) (_ : Unit) => ret = r) (fun _ t => PoS (dC, dI) (tyL cI cJ cG cZ) (wd_Mo_arcs cI cJ cG cZ a0 a0_from a0_to a0_near a0_lists a0_colours a0_shades a0_tints a0_attempt a0_taken a0_isApart a0_ways a0_next a0_splits a0_powers a0_row a0_many a0_can a0_could a0_arcRow a0_order a0_isOut o_v0_thrown v0_nodes v0_arcs v0_takenMany v0_leftBits v0_hasPolynomial v0_hasLists w0_from w0_to o_w0_shades o_w0_arcRow) A t) A) ([.ref a0] : List Value).toArray s 0 0 A) (F0 m 29 ls []))) hm (fun k_29 z_29 ih_29 hm => ?_) _ _ rfl ls H locs (lv_sub hl [1, 0] rfl) hP hD hS
      intro x1_3 w0_arcRow_4 hz ls H locs hl hP hD hS
      subst hz
      dsimp only at hm
      refine lv_aload_n hx hb d_Mo_arcs_29 rfl (lv_at hl 0 rfl) ?_
      refine lv_iload_n hx hb d_Mo_arcs_30 rfl (lv_at hl 1 rfl) ?_
      obtain ⟨⟨q_5, w0_arcRow_6⟩, hc_7, hm⟩ := gM_e hm
      dsimp only at hm
      have hPc : va_P (dC, dI) vwCl (wd_Mo_searchArcs cI cJ cG cZ a0 a0_from a0_to a0_near a0_lists a0_colours a0_shades a0_tints a0_attempt a0_taken a0_isApart a0_ways a0_next a0_splits a0_powers a0_row a0_many a0_can a0_could a0_arcRow a0_order a0_isOut s_1 v0_nodes v0_arcs v0_takenMany v0_leftBits v0_hasPolynomial v0_hasLists w0_from w0_to w0_arcRow_4) H := hP.sub [0, 1, 2, 4] rfl
      have hDc : va_D A (wd_Mo_searchArcs cI cJ cG cZ a0 a0_from a0_to a0_near a0_lists a0_colours a0_shades a0_tints a0_attempt a0_taken a0_isApart a0_ways a0_next a0_splits a0_powers a0_row a0_many a0_can a0_could a0_arcRow a0_order a0_isOut s_1 v0_nodes v0_arcs v0_takenMany v0_leftBits v0_hasPolynomial v0_hasLists w0_from w0_to w0_arcRow_4) := hD.sub [0, 1, 2, 4] (by decide) rfl
      have hFc : ∀ q, va_A (wd_Mo_searchArcs cI cJ cG cZ a0 a0_from a0_to a0_near a0_lists a0_colours a0_shades a0_tints a0_attempt a0_taken a0_isApart a0_ways a0_next a0_splits a0_powers a0_row a0_many a0_can a0_could a0_arcRow a0_order a0_isOut s_1 v0_nodes v0_arcs v0_takenMany v0_leftBits v0_hasPolynomial v0_hasLists w0_from w0_to w0_arcRow_4) H.size q → A q := va_free hD hS hA [0, 1, 2, 4] rfl
      refine va_calli (va_runV (As := [.int x1_3]) (rest := []) ⟨hx, hb, hml, hown, htt⟩ (c_Mo_searchArcs l dC dI cI cJ cG cZ a0 a0_from a0_to a0_near a0_lists a0_colours a0_shades a0_tints a0_attempt a0_taken a0_isApart a0_ways a0_next a0_splits a0_powers a0_row a0_many a0_can a0_could a0_arcRow a0_order a0_isOut H.size F s_1 v0_nodes v0_arcs v0_takenMany v0_leftBits v0_hasPolynomial v0_hasLists w0_from w0_to w0_arcRow_4 x1_3 q_5 w0_arcRow_6 hc_7) (cwV 1 htt (gdV kt_952 kt_954 kp_53 kt_10 kt_955) rfl rfl rfl (by decide +kernel) ⟨(Nat.le_of_ble_eq_true rfl), (Nat.le_of_ble_eq_true rfl)⟩) ⟨PcS_blind, va_recv hK hPc (ci := 8) (q0 := 0) rfl rfl, PcS_in hPc hK hDc hNw⟩ rfl rfl hl.1 rfl (lv_room (Nat.le_of_ble_eq_true rfl)) d_Mo_arcs_31 ⟨Nat.zero_le _, Nat.zero_le _⟩) hS (fun q _ h => hFc q h) hFc (fun r_9 u t H1 locs ht hvm hw hB hz1 hk1 hS => ?_)
      obtain ⟨hP1, hK1, hD1⟩ := hB
      rw [ht] at hP1
      obtain ⟨hw, hz_10⟩ := hw
      subst hw
      obtain ⟨hP, hD⟩ := va_join (wr := [(a0_shades, .inl (cI, 40, .inl w0_shades))]) (w1 := (wd_Mo_searchArcs cI cJ cG cZ a0 a0_from a0_to a0_near a0_lists a0_colours a0_shades a0_tints a0_attempt a0_taken a0_isApart a0_ways a0_next a0_splits a0_powers a0_row a0_many a0_can a0_could a0_arcRow a0_order a0_isOut s_1 v0_nodes v0_arcs v0_takenMany v0_leftBits v0_hasPolynomial v0_hasLists w0_from w0_to w0_arcRow_6)) hP hD [0, 1, 2, 4] [3] rfl rfl (by decide) (by decide) hk1 hFc hP1 hD1
      have hP : va_P (dC, dI) vwCl (wd_Mo_arcs cI cJ cG cZ a0 a0_from a0_to a0_near a0_lists a0_colours a0_shades a0_tints a0_attempt a0_taken a0_isApart a0_ways a0_next a0_splits a0_powers a0_row a0_many a0_can a0_could a0_arcRow a0_order a0_isOut s_1 v0_nodes v0_arcs v0_takenMany v0_leftBits v0_hasPolynomial v0_hasLists w0_from w0_to w0_shades w0_arcRow_6) H1 := hP.sub [1, 2, 3, 0, 4] rfl
      have hD : va_D A (wd_Mo_arcs cI cJ cG cZ a0 a0_from a0_to a0_near a0_lists a0_colours a0_shades a0_tints a0_attempt a0_taken a0_isApart a0_ways a0_next a0_splits a0_powers a0_row a0_many a0_can a0_could a0_arcRow a0_order a0_isOut s_1 v0_nodes v0_arcs v0_takenMany v0_leftBits v0_hasPolynomial v0_hasLists w0_from w0_to w0_shades w0_arcRow_6) := hD.sub [1, 2, 3, 0, 4] (by decide) rfl
      clear hP1 hK1 hD1 hk1 hPc hDc hFc ht hvm hz1
      generalize H1 = H at hP hS ⊢
      refine lv_if_ne (tgt := 43) hx hb d_Mo_arcs_34 (by decide) (fun c_11 => ?_) (fun c_11 => ?_)
      · have hm := ite_f c_11 hm
        refine lv_iconst (v := 0) hx hb d_Mo_arcs_43 (by decide) ?_
        refine lv_istore_n (lv' := [(2, .int 0), (0, .ref a0), (1, .int x1_3)]) hx hb d_Mo_arcs_44 rfl hl (by decide) rfl (fun ls hl => ?_)
        refine gL_e (P := (fun (z_45 : Int32 × (Nat → Int32)) => ∀ (x2_12 : Int32), ∀ (w0_shades_13 : Nat → Int32), z_45 = (x2_12, w0_shades_13) → ∀ (ls : Array Slot) (H : Heap) (locs : List Loc), lv_has ls 3 [(0, .ref a0), (1, .int x1_3), (2, .int x2_12)] → va_P (dC, dI) vwCl (wd_Mo_arcs cI cJ cG cZ a0 a0_from a0_to a0_near a0_lists a0_colours a0_shades a0_tints a0_attempt a0_taken a0_isApart a0_ways a0_next a0_splits a0_powers a0_row a0_many a0_can a0_could a0_arcRow a0_order a0_isOut s_1 v0_nodes v0_arcs v0_takenMany v0_leftBits v0_hasPolynomial v0_hasLists w0_from w0_to w0_shades_13 w0_arcRow_6) H → va_D A (wd_Mo_arcs cI cJ cG cZ a0 a0_from a0_to a0_near a0_lists a0_colours a0_shades a0_tints a0_attempt a0_taken a0_isApart a0_ways a0_next a0_splits a0_powers a0_row a0_many a0_can a0_could a0_arcRow a0_order a0_isOut s_1 v0_nodes v0_arcs v0_takenMany v0_leftBits v0_hasPolynomial v0_hasLists w0_from w0_to w0_shades_13 w0_arcRow_6) → va_S A s.heap H locs → W p l e (headSpec us_Mo_arcs rm_Mo_arcs).room s m ([.ref a0] : List Value).toArray below meth c H locs 0 0 (MQ below (va_Qi (fun (r : Int32) (_ : Unit) => ret = r) (fun _ t => PoS (dC, dI) (tyL cI cJ cG cZ) (wd_Mo_arcs cI cJ cG cZ a0 a0_from a0_to a0_near a0_lists a0_colours a0_shades a0_tints a0_attempt a0_taken a0_isApart a0_ways a0_next a0_splits a0_powers a0_row a0_many a0_can a0_could a0_arcRow a0_order a0_isOut o_v0_thrown v0_nodes v0_arcs v0_takenMany v0_leftBits v0_hasPolynomial v0_hasLists w0_from w0_to o_w0_shades o_w0_arcRow) A t) A) ([.ref a0] : List Value).toArray s 0 0 A) (F0 m 45 ls []))) hm (fun k_45 z_45 ih_45 hm => ?_) _ _ rfl ls H locs (lv_sub hl [1, 2, 0] rfl) hP hD hS
        intro x2_12 w0_shades_13 hz ls H locs hl hP hD hS
        subst hz
        dsimp only at hm
        refine lv_iload_n hx hb d_Mo_arcs_45 rfl (lv_at hl 2 rfl) ?_
        refine lv_bipush (v := 40) hx hb d_Mo_arcs_46 (by decide) ?_
        refine lv_icmp_ge (tgt := 81) hx hb d_Mo_arcs_48 (by decide) (fun c_14 => ?_) (fun c_14 => ?_)
        · have hm := ite_t c_14 hm
          refine lv_iload_n hx hb d_Mo_arcs_81 rfl (lv_at hl 1 rfl) ?_
          cases hm
          exact W.iret hx hb hr (fun t ht hW => ⟨⟨_, (), rfl, rfl, by rw [ht]; exact hP, va_K.moved hW.alike hK, hD⟩, hS.F ht⟩) hS.2.2 d_Mo_arcs_82
        · have hm := ite_f c_14 hm
          refine lv_aload_n hx hb d_Mo_arcs_51 rfl (lv_at hl 0 rfl) ?_
          refine va_get (D := (dC, dI)) (ci := 8) (v := .ref a0_shades) (C := R_Mo) (T := T_Mo) (N := 28) hx hb htt hin_Mo hown hK hP 0 rfl rfl 8 (by decide) (htt _ kt_777) (fun _ h9 => h9) rfl d_Mo_arcs_52 ?_
          refine lv_iload_n hx hb d_Mo_arcs_55 rfl (lv_at hl 2 rfl) ?_
          refine lv_iload_n hx hb d_Mo_arcs_56 rfl (lv_at hl 2 rfl) ?_
          refine lv_aload_n hx hb d_Mo_arcs_57 rfl (lv_at hl 0 rfl) ?_
          refine va_get (D := (dC, dI)) (ci := 8) (v := .int v0_arcs) (C := R_Mo) (T := T_Mo) (N := 28) hx hb htt hin_Mo hown hK hP 0 rfl rfl 2 (by decide) (htt _ kt_771) (fun _ h9 => h9) rfl d_Mo_arcs_58 ?_
          obtain ⟨J_74, hJ_74, hm⟩ := gB_x hm
          have jp_74 : ∀ (s_15 : Int32) (ls : Array Slot) (H : Heap) (locs : List Loc), J_74 s_15 = some (ret, o_v0_thrown, o_w0_shades, o_w0_arcRow) → lv_has ls 3 [(0, .ref a0), (1, .int x1_3), (2, .int x2_12)] → va_P (dC, dI) vwCl (wd_Mo_arcs cI cJ cG cZ a0 a0_from a0_to a0_near a0_lists a0_colours a0_shades a0_tints a0_attempt a0_taken a0_isApart a0_ways a0_next a0_splits a0_powers a0_row a0_many a0_can a0_could a0_arcRow a0_order a0_isOut s_1 v0_nodes v0_arcs v0_takenMany v0_leftBits v0_hasPolynomial v0_hasLists w0_from w0_to w0_shades_13 w0_arcRow_6) H → va_D A (wd_Mo_arcs cI cJ cG cZ a0 a0_from a0_to a0_near a0_lists a0_colours a0_shades a0_tints a0_attempt a0_taken a0_isApart a0_ways a0_next a0_splits a0_powers a0_row a0_many a0_can a0_could a0_arcRow a0_order a0_isOut s_1 v0_nodes v0_arcs v0_takenMany v0_leftBits v0_hasPolynomial v0_hasLists w0_from w0_to w0_shades_13 w0_arcRow_6) → va_S A s.heap H locs → W p l e (headSpec us_Mo_arcs rm_Mo_arcs).room s m ([.ref a0] : List Value).toArray below meth c H locs 0 0 (MQ below (va_Qi (fun (r : Int32) (_ : Unit) => ret = r) (fun _ t => PoS (dC, dI) (tyL cI cJ cG cZ) (wd_Mo_arcs cI cJ cG cZ a0 a0_from a0_to a0_near a0_lists a0_colours a0_shades a0_tints a0_attempt a0_taken a0_isApart a0_ways a0_next a0_splits a0_powers a0_row a0_many a0_can a0_could a0_arcRow a0_order a0_isOut o_v0_thrown v0_nodes v0_arcs v0_takenMany v0_leftBits v0_hasPolynomial v0_hasLists w0_from w0_to o_w0_shades o_w0_arcRow) A t) A) ([.ref a0] : List Value).toArray s 0 0 A) (F0 m 74 ls [.int s_15, .int x2_12, .ref a0_shades]) := by
            intro s_15 ls H locs hm hl hP hD hS
            have hm := jn1 hJ_74 hm
            obtain ⟨hi_16, hm⟩ := gC_e hm
            refine va_iast hx hb hK hP hD hS 3 0 rfl rfl (inb_vp hi_16) d_Mo_arcs_74 (fun H locs hP hD hS => ?_)
            have hP : va_P (dC, dI) vwCl (wd_Mo_arcs cI cJ cG cZ a0 a0_from a0_to a0_near a0_lists a0_colours a0_shades a0_tints a0_attempt a0_taken a0_isApart a0_ways a0_next a0_splits a0_powers a0_row a0_many a0_can a0_could a0_arcRow a0_order a0_isOut s_1 v0_nodes v0_arcs v0_takenMany v0_leftBits v0_hasPolynomial v0_hasLists w0_from w0_to (upd w0_shades_13 x2_12.toNatClampNeg s_15) w0_arcRow_6) H := hP
            have hD : va_D A (wd_Mo_arcs cI cJ cG cZ a0 a0_from a0_to a0_near a0_lists a0_colours a0_shades a0_tints a0_attempt a0_taken a0_isApart a0_ways a0_next a0_splits a0_powers a0_row a0_many a0_can a0_could a0_arcRow a0_order a0_isOut s_1 v0_nodes v0_arcs v0_takenMany v0_leftBits v0_hasPolynomial v0_hasLists w0_from w0_to (upd w0_shades_13 x2_12.toNatClampNeg s_15) w0_arcRow_6) := hD
            obtain ⟨x2_17, ex2_17⟩ : ∃ y : Int32, y = x2_12 + 1 := ⟨_, rfl⟩
            have hm := gB_at ex2_17 hm
            refine lv_iinc (v := x2_17) (lv' := [(2, .int x2_17), (0, .ref a0), (1, .int x1_3)]) hx hb d_Mo_arcs_75 hl (k := 2) rfl (by rw [ex2_17]; rfl) (by decide) rfl (fun ls hl => ?_)
            refine lv_goto (tgt := 45) hx hb d_Mo_arcs_78 (by decide) ?_
            exact ih_45 _ hm _ _ rfl ls H locs (lv_sub hl [1, 2, 0] rfl) hP hD hS
          clear hJ_74
          refine lv_icmp_ge (tgt := 73) hx hb d_Mo_arcs_61 (by decide) (fun c_18 => ?_) (fun c_18 => ?_)
          · have hm := ite_t c_18 hm
            refine lv_iconst (v := (-1)) hx hb d_Mo_arcs_73 (by decide) ?_
            exact jp_74 _ ls H locs hm (lv_sub hl [0, 1, 2] rfl) hP hD hS
          · have hm := ite_f c_18 hm
            refine lv_aload_n hx hb d_Mo_arcs_64 rfl (lv_at hl 0 rfl) ?_
            refine va_get (D := (dC, dI)) (ci := 8) (v := .ref a0_arcRow) (C := R_Mo) (T := T_Mo) (N := 28) hx hb htt hin_Mo hown hK hP 0 rfl rfl 25 (by decide) (htt _ kt_794) (fun _ h9 => h9) rfl d_Mo_arcs_65 ?_
            refine lv_iload_n hx hb d_Mo_arcs_68 rfl (lv_at hl 2 rfl) ?_
            obtain ⟨hi_19, hm⟩ := gC_e hm
            refine va_iald hx hb hK hP 4 0 rfl rfl (inb_vp hi_19) d_Mo_arcs_69 ?_
            refine lv_goto (tgt := 74) hx hb d_Mo_arcs_70 (by decide) ?_
            exact jp_74 _ ls H locs hm (lv_sub hl [0, 1, 2] rfl) hP hD hS
      · have hm := ite_t c_11 hm
        obtain ⟨x1_20, ex1_20⟩ : ∃ y : Int32, y = x1_3 + 1 := ⟨_, rfl⟩
        have hm := gB_at ex1_20 hm
        refine lv_iinc (v := x1_20) (lv' := [(1, .int x1_20), (0, .ref a0)]) hx hb d_Mo_arcs_37 hl (k := 1) rfl (by rw [ex1_20]; rfl) (by decide) rfl (fun ls hl => ?_)
        refine lv_goto (tgt := 29) hx hb d_Mo_arcs_40 (by decide) ?_
        exact ih_29 _ hm _ _ rfl ls H locs (lv_sub hl [1, 0] rfl) hP hD hS
    · have hm := ite_f c_2 hm
      refine lv_iconst (v := 0) hx hb d_Mo_arcs_25 (by decide) ?_
      cases hm
      exact W.iret hx hb hr (fun t ht hW => ⟨⟨_, (), rfl, rfl, by rw [ht]; exact hP, va_K.moved hW.alike hK, hD⟩, hS.F ht⟩) hS.2.2 d_Mo_arcs_26
  clear hJ_15
  refine lv_icmp_le (tgt := 14) hx hb d_Mo_arcs_7 (by decide) (fun c_21 => ?_) (fun c_21 => ?_)
  · have hm := ite_t c_21 hm
    refine lv_iconst (v := 0) hx hb d_Mo_arcs_14 (by decide) ?_
    exact jp_15 _ ls H locs hm (lv_sub hl [0] rfl) hP hD hS
  · have hm := ite_f c_21 hm
    refine lv_iconst (v := 1) hx hb d_Mo_arcs_10 (by decide) ?_
    refine lv_goto (tgt := 15) hx hb d_Mo_arcs_11 (by decide) ?_
    exact jp_15 _ ls H locs hm (lv_sub hl [0] rfl) hP hD hS
theorem d_Mo_shade_0 : decode prog_10_method_31_code 0 = .ok (.aload_n 0, 1) := by decide +kernel
theorem d_Mo_shade_1 : decode prog_10_method_31_code 1 = .ok (.iconst 0, 1) := by decide +kernel
theorem d_Mo_shade_2 : decode prog_10_method_31_code 2 = .ok (.putfield 79, 3) := by decide +kernel
theorem d_Mo_shade_5 : decode prog_10_method_31_code 5 = .ok (.iload_n 1, 1) := by decide +kernel
theorem d_Mo_shade_6 : decode prog_10_method_31_code 6 = .ok (.ifCond .lt 20, 3) := by decide +kernel
theorem d_Mo_shade_9 : decode prog_10_method_31_code 9 = .ok (.iload_n 1, 1) := by decide +kernel
theorem d_Mo_shade_10 : decode prog_10_method_31_code 10 = .ok (.aload_n 0, 1) := by decide +kernel
theorem d_Mo_shade_11 : decode prog_10_method_31_code 11 = .ok (.getfield 89, 3) := by decide +kernel
theorem d_Mo_shade_14 : decode prog_10_method_31_code 14 = .ok (.if_icmp .ge 12, 3) := by decide +kernel
theorem d_Mo_shade_17 : decode prog_10_method_31_code 17 = .ok (.aload_n 0, 1) := by decide +kernel
theorem d_Mo_shade_18 : decode prog_10_method_31_code 18 = .ok (.getfield 25, 3) := by decide +kernel
theorem d_Mo_shade_21 : decode prog_10_method_31_code 21 = .ok (.iload_n 1, 1) := by decide +kernel
theorem d_Mo_shade_22 : decode prog_10_method_31_code 22 = .ok (.iaload, 1) := by decide +kernel
theorem d_Mo_shade_23 : decode prog_10_method_31_code 23 = .ok (.goto 4, 3) := by decide +kernel
theorem d_Mo_shade_26 : decode prog_10_method_31_code 26 = .ok (.iconst (-1), 1) := by decide +kernel
theorem d_Mo_shade_27 : decode prog_10_method_31_code 27 = .ok (.ireturn, 1) := by decide +kernel
abbrev wd_Mo_shade (cI cJ cG cZ : ClassId) (a0 a0_from a0_to a0_near a0_lists a0_colours a0_shades a0_tints a0_attempt a0_taken a0_isApart a0_ways a0_next a0_splits a0_powers a0_row a0_many a0_can a0_could a0_arcRow a0_order a0_isOut : Nat) (v0_thrown : Int32) (v0_nodes : Int32) (v0_arcs : Int32) (v0_takenMany : Int32) (v0_leftBits : Int32) (v0_hasPolynomial : Int32) (v0_hasLists : Int32) (w0_shades : Nat → Int32) : va_W := [(a0, .inr (8, [.int v0_thrown, .int v0_nodes, .int v0_arcs, .ref a0_from, .ref a0_to, .ref a0_near, .ref a0_lists, .ref a0_colours, .ref a0_shades, .ref a0_tints, .ref a0_attempt, .int v0_takenMany, .ref a0_taken, .int v0_leftBits, .ref a0_isApart, .ref a0_ways, .ref a0_next, .ref a0_splits, .ref a0_powers, .ref a0_row, .ref a0_many, .int v0_hasPolynomial, .int v0_hasLists, .ref a0_can, .ref a0_could, .ref a0_arcRow, .ref a0_order, .ref a0_isOut])), (a0_shades, .inl (cI, 40, .inl w0_shades))]
abbrev us_Mo_shade : List Cond := .code y_Mo_shade prog_10_method_31_code 2 (some .int) :: gtbl
abbrev rm_Mo_shade : Room := { frames := 0, cells := 0, slots := 0, locals := 0 }
def m_Mo_shade (F : Nat) (v0_thrown : Int32) (v0_nodes : Int32) (v0_arcs : Int32) (v0_takenMany : Int32) (v0_leftBits : Int32) (v0_hasPolynomial : Int32) (v0_hasLists : Int32) (w0_shades : Nat → Int32) (p1 : Int32) : Option (Int32 × Int32) :=
  if p1 < 0 then (
    some ((-1), 0)
  ) else (
    if v0_arcs ≤ p1 then (
      some ((-1), 0)
    ) else (
      gC (inb p1 40) (
      some (w0_shades p1.toNatClampNeg, 0))
    )
  )
set_option maxHeartbeats 4000000 in
set_option maxRecDepth 100000 in
theorem c_Mo_shade (l : Launch) (dC : Nat → ClassId) (dI : Nat → Nat → Nat) (cI cJ cG cZ : ClassId) (a0 a0_from a0_to a0_near a0_lists a0_colours a0_shades a0_tints a0_attempt a0_taken a0_isApart a0_ways a0_next a0_splits a0_powers a0_row a0_many a0_can a0_could a0_arcRow a0_order a0_isOut : Nat) (sz : Nat) (F : Nat) (v0_thrown : Int32) (v0_nodes : Int32) (v0_arcs : Int32) (v0_takenMany : Int32) (v0_leftBits : Int32) (v0_hasPolynomial : Int32) (v0_hasLists : Int32) (w0_shades : Nat → Int32) (p1 : Int32) (ret : Int32) (o_v0_thrown : Int32) (hm : m_Mo_shade F v0_thrown v0_nodes v0_arcs v0_takenMany v0_leftBits v0_hasPolynomial v0_hasLists w0_shades p1 = some (ret, o_v0_thrown)) : Met l y_Mo_shade us_Mo_shade rm_Mo_shade (PcS (dC, dI) (tyL cI cJ cG cZ) [.ref a0, .int p1] sz (wd_Mo_shade cI cJ cG cZ a0 a0_from a0_to a0_near a0_lists a0_colours a0_shades a0_tints a0_attempt a0_taken a0_isApart a0_ways a0_next a0_splits a0_powers a0_row a0_many a0_can a0_could a0_arcRow a0_order a0_isOut v0_thrown v0_nodes v0_arcs v0_takenMany v0_leftBits v0_hasPolynomial v0_hasLists w0_shades)) (va_Qi (fun (r : Int32) (_ : Unit) => ret = r) (fun _ t => PoS (dC, dI) (tyL cI cJ cG cZ) (wd_Mo_shade cI cJ cG cZ a0 a0_from a0_to a0_near a0_lists a0_colours a0_shades a0_tints a0_attempt a0_taken a0_isApart a0_ways a0_next a0_splits a0_powers a0_row a0_many a0_can a0_could a0_arcRow a0_order a0_isOut o_v0_thrown v0_nodes v0_arcs v0_takenMany v0_leftBits v0_hasPolynomial v0_hasLists w0_shades) (va_A (wd_Mo_shade cI cJ cG cZ a0 a0_from a0_to a0_near a0_lists a0_colours a0_shades a0_tints a0_attempt a0_taken a0_isApart a0_ways a0_next a0_splits a0_powers a0_row a0_many a0_can a0_could a0_arcRow a0_order a0_isOut v0_thrown v0_nodes v0_arcs v0_takenMany v0_leftBits v0_hasPolynomial v0_hasLists w0_shades) sz) t) (va_A (wd_Mo_shade cI cJ cG cZ a0 a0_from a0_to a0_near a0_lists a0_colours a0_shades a0_tints a0_attempt a0_taken a0_isApart a0_ways a0_next a0_splits a0_powers a0_row a0_many a0_can a0_could a0_arcRow a0_order a0_isOut v0_thrown v0_nodes v0_arcs v0_takenMany v0_leftBits v0_hasPolynomial v0_hasLists w0_shades) sz)) 0 0 (va_A (wd_Mo_shade cI cJ cG cZ a0 a0_from a0_to a0_near a0_lists a0_colours a0_shades a0_tints a0_attempt a0_taken a0_isApart a0_ways a0_next a0_splits a0_powers a0_row a0_many a0_can a0_could a0_arcRow a0_order a0_isOut v0_thrown v0_nodes v0_arcs v0_takenMany v0_leftBits v0_hasPolynomial v0_hasLists w0_shades) sz) := by
  refine Met.ofW (cc := prog_10_method_31_code) (maxL := 2) (ret := (some .int)) (by decide) rfl ?_
  intro p e s m args below meth c s₁ B hml hv
  obtain ⟨rfl, hsz, hP, hK, hD0, hNw⟩ := hv
  have hx := B.exec
  have hb := B.bytes
  have hr := B.returns
  have htt : ∀ w ∈ gtbl, w.before _ s = true := fun w h => atoms_spec (ws := us_Mo_shade) B.pre w (List.mem_cons_of_mem _ h)
  have hown : s.vm.findClass R_Mo = some m.cls := findClass_of_methodNamed B.named
  have hlocks := B.notSynchronized
  subst hsz
  have hD := hD0.self (sz := s.heap.size)
  generalize hAe : va_A (wd_Mo_shade cI cJ cG cZ a0 a0_from a0_to a0_near a0_lists a0_colours a0_shades a0_tints a0_attempt a0_taken a0_isApart a0_ways a0_next a0_splits a0_powers a0_row a0_many a0_can a0_could a0_arcRow a0_order a0_isOut v0_thrown v0_nodes v0_arcs v0_takenMany v0_leftBits v0_hasPolynomial v0_hasLists w0_shades) s.heap.size = A at hD ⊢
  have hA : ∀ q : Nat, s.heap.size ≤ q → A q := fun q h => by rw [← hAe]; exact Or.inr h
  clear hAe hD0
  have hS : va_S A s.heap s.heap [] := va_S.rf
  have hl := lv_entry ([.ref a0, .int p1]) (n := 2) (Nat.le_of_ble_eq_true rfl)
  rw [lg_entry_eq]
  generalize (lg_sl ([.ref a0, .int p1]) ++ List.replicate (2 - (lg_sl ([.ref a0, .int p1])).length) Slot.unset).toArray = ls at hl ⊢
  have hl : lv_has ls 2 [(0, .ref a0), (1, .int p1)] := hl
  generalize hH : s.heap = H at hP ⊢
  have hS : va_S A s.heap H [] := hH ▸ hS
  generalize hLo : ([] : List Loc) = locs at hS ⊢
  clear hH hLo
  unfold m_Mo_shade at hm
  refine lv_aload_n hx hb d_Mo_shade_0 rfl (lv_at hl 0 rfl) ?_
  refine lv_iconst (v := 0) hx hb d_Mo_shade_1 (by decide) ?_
  refine va_put (D := (dC, dI)) (ci := 8) (v := .int 0) (ty := .int) (C := R_Mo) (T := T_Mo) (N := 28) hx hb htt hin_Mo ty_Mo tyok_Mo nm_Mo hown hK hP hD hS 0 rfl rfl 0 (by decide) (htt _ kt_769) (fun _ h9 => h9) rfl (by decide +kernel) rfl rfl (Nat.le_of_ble_eq_true rfl) d_Mo_shade_2 (fun H locs hP hD hS => ?_)
  have hP : va_P (dC, dI) vwCl (wd_Mo_shade cI cJ cG cZ a0 a0_from a0_to a0_near a0_lists a0_colours a0_shades a0_tints a0_attempt a0_taken a0_isApart a0_ways a0_next a0_splits a0_powers a0_row a0_many a0_can a0_could a0_arcRow a0_order a0_isOut 0 v0_nodes v0_arcs v0_takenMany v0_leftBits v0_hasPolynomial v0_hasLists w0_shades) H := hP
  have hD : va_D A (wd_Mo_shade cI cJ cG cZ a0 a0_from a0_to a0_near a0_lists a0_colours a0_shades a0_tints a0_attempt a0_taken a0_isApart a0_ways a0_next a0_splits a0_powers a0_row a0_many a0_can a0_could a0_arcRow a0_order a0_isOut 0 v0_nodes v0_arcs v0_takenMany v0_leftBits v0_hasPolynomial v0_hasLists w0_shades) := hD
  refine lv_iload_n hx hb d_Mo_shade_5 rfl (lv_at hl 1 rfl) ?_
  refine lv_if_lt (tgt := 26) hx hb d_Mo_shade_6 (by decide) (fun c_1 => ?_) (fun c_1 => ?_)
  · have hm := ite_t c_1 hm
    refine lv_iconst (v := (-1)) hx hb d_Mo_shade_26 (by decide) ?_
    cases hm
    exact W.iret hx hb hr (fun t ht hW => ⟨⟨_, (), rfl, rfl, by rw [ht]; exact hP, va_K.moved hW.alike hK, hD⟩, hS.F ht⟩) hS.2.2 d_Mo_shade_27
  · have hm := ite_f c_1 hm
    refine lv_iload_n hx hb d_Mo_shade_9 rfl (lv_at hl 1 rfl) ?_
    refine lv_aload_n hx hb d_Mo_shade_10 rfl (lv_at hl 0 rfl) ?_
    refine va_get (D := (dC, dI)) (ci := 8) (v := .int v0_arcs) (C := R_Mo) (T := T_Mo) (N := 28) hx hb htt hin_Mo hown hK hP 0 rfl rfl 2 (by decide) (htt _ kt_771) (fun _ h9 => h9) rfl d_Mo_shade_11 ?_
    refine lv_icmp_ge (tgt := 26) hx hb d_Mo_shade_14 (by decide) (fun c_2 => ?_) (fun c_2 => ?_)
    · have hm := ite_t c_2 hm
      refine lv_iconst (v := (-1)) hx hb d_Mo_shade_26 (by decide) ?_
      cases hm
      exact W.iret hx hb hr (fun t ht hW => ⟨⟨_, (), rfl, rfl, by rw [ht]; exact hP, va_K.moved hW.alike hK, hD⟩, hS.F ht⟩) hS.2.2 d_Mo_shade_27
    · have hm := ite_f c_2 hm
      refine lv_aload_n hx hb d_Mo_shade_17 rfl (lv_at hl 0 rfl) ?_
      refine va_get (D := (dC, dI)) (ci := 8) (v := .ref a0_shades) (C := R_Mo) (T := T_Mo) (N := 28) hx hb htt hin_Mo hown hK hP 0 rfl rfl 8 (by decide) (htt _ kt_777) (fun _ h9 => h9) rfl d_Mo_shade_18 ?_
      refine lv_iload_n hx hb d_Mo_shade_21 rfl (lv_at hl 1 rfl) ?_
      obtain ⟨hi_3, hm⟩ := gC_e hm
      refine va_iald hx hb hK hP 1 0 rfl rfl (inb_vp hi_3) d_Mo_shade_22 ?_
      refine lv_goto (tgt := 27) hx hb d_Mo_shade_23 (by decide) ?_
      cases hm
      exact W.iret hx hb hr (fun t ht hW => ⟨⟨_, (), rfl, rfl, by rw [ht]; exact hP, va_K.moved hW.alike hK, hD⟩, hS.F ht⟩) hS.2.2 d_Mo_shade_27
theorem d_Mo_greatest_0 : decode prog_10_method_32_code 0 = .ok (.iconst 0, 1) := by decide +kernel
theorem d_Mo_greatest_1 : decode prog_10_method_32_code 1 = .ok (.istore_n 2, 1) := by decide +kernel
theorem d_Mo_greatest_2 : decode prog_10_method_32_code 2 = .ok (.iconst 1, 1) := by decide +kernel
theorem d_Mo_greatest_3 : decode prog_10_method_32_code 3 = .ok (.istore_n 3, 1) := by decide +kernel
theorem d_Mo_greatest_4 : decode prog_10_method_32_code 4 = .ok (.iload_n 3, 1) := by decide +kernel
theorem d_Mo_greatest_5 : decode prog_10_method_32_code 5 = .ok (.iconst 1, 1) := by decide +kernel
theorem d_Mo_greatest_6 : decode prog_10_method_32_code 6 = .ok (.aload_n 0, 1) := by decide +kernel
theorem d_Mo_greatest_7 : decode prog_10_method_32_code 7 = .ok (.getfield 86, 3) := by decide +kernel
theorem d_Mo_greatest_10 : decode prog_10_method_32_code 10 = .ok (.ishl, 1) := by decide +kernel
theorem d_Mo_greatest_11 : decode prog_10_method_32_code 11 = .ok (.if_icmp .ge 169, 3) := by decide +kernel
theorem d_Mo_greatest_14 : decode prog_10_method_32_code 14 = .ok (.iconst 1, 1) := by decide +kernel
theorem d_Mo_greatest_15 : decode prog_10_method_32_code 15 = .ok (.istore 4, 2) := by decide +kernel
theorem d_Mo_greatest_17 : decode prog_10_method_32_code 17 = .ok (.iconst 0, 1) := by decide +kernel
theorem d_Mo_greatest_18 : decode prog_10_method_32_code 18 = .ok (.istore 5, 2) := by decide +kernel
theorem d_Mo_greatest_20 : decode prog_10_method_32_code 20 = .ok (.iload 5, 2) := by decide +kernel
theorem d_Mo_greatest_22 : decode prog_10_method_32_code 22 = .ok (.aload_n 0, 1) := by decide +kernel
theorem d_Mo_greatest_23 : decode prog_10_method_32_code 23 = .ok (.getfield 86, 3) := by decide +kernel
theorem d_Mo_greatest_26 : decode prog_10_method_32_code 26 = .ok (.if_icmp .ge 87, 3) := by decide +kernel
theorem d_Mo_greatest_29 : decode prog_10_method_32_code 29 = .ok (.iload_n 3, 1) := by decide +kernel
theorem d_Mo_greatest_30 : decode prog_10_method_32_code 30 = .ok (.iconst 1, 1) := by decide +kernel
theorem d_Mo_greatest_31 : decode prog_10_method_32_code 31 = .ok (.iload 5, 2) := by decide +kernel
theorem d_Mo_greatest_33 : decode prog_10_method_32_code 33 = .ok (.ishl, 1) := by decide +kernel
theorem d_Mo_greatest_34 : decode prog_10_method_32_code 34 = .ok (.iconst (-1), 1) := by decide +kernel
theorem d_Mo_greatest_35 : decode prog_10_method_32_code 35 = .ok (.ixor, 1) := by decide +kernel
theorem d_Mo_greatest_36 : decode prog_10_method_32_code 36 = .ok (.iand, 1) := by decide +kernel
theorem d_Mo_greatest_37 : decode prog_10_method_32_code 37 = .ok (.istore 6, 2) := by decide +kernel
theorem d_Mo_greatest_39 : decode prog_10_method_32_code 39 = .ok (.iload_n 3, 1) := by decide +kernel
theorem d_Mo_greatest_40 : decode prog_10_method_32_code 40 = .ok (.iload 5, 2) := by decide +kernel
theorem d_Mo_greatest_42 : decode prog_10_method_32_code 42 = .ok (.ishr, 1) := by decide +kernel
theorem d_Mo_greatest_43 : decode prog_10_method_32_code 43 = .ok (.iconst 1, 1) := by decide +kernel
theorem d_Mo_greatest_44 : decode prog_10_method_32_code 44 = .ok (.iand, 1) := by decide +kernel
theorem d_Mo_greatest_45 : decode prog_10_method_32_code 45 = .ok (.iconst 1, 1) := by decide +kernel
theorem d_Mo_greatest_46 : decode prog_10_method_32_code 46 = .ok (.if_icmp .ne 7, 3) := by decide +kernel
theorem d_Mo_greatest_49 : decode prog_10_method_32_code 49 = .ok (.iconst 1, 1) := by decide +kernel
theorem d_Mo_greatest_50 : decode prog_10_method_32_code 50 = .ok (.goto 4, 3) := by decide +kernel
theorem d_Mo_greatest_53 : decode prog_10_method_32_code 53 = .ok (.iconst 0, 1) := by decide +kernel
theorem d_Mo_greatest_54 : decode prog_10_method_32_code 54 = .ok (.istore 7, 2) := by decide +kernel
theorem d_Mo_greatest_56 : decode prog_10_method_32_code 56 = .ok (.iload 4, 2) := by decide +kernel
theorem d_Mo_greatest_58 : decode prog_10_method_32_code 58 = .ok (.ifCond .eq 46, 3) := by decide +kernel
theorem d_Mo_greatest_61 : decode prog_10_method_32_code 61 = .ok (.iload 7, 2) := by decide +kernel
theorem d_Mo_greatest_63 : decode prog_10_method_32_code 63 = .ok (.ifCond .eq 37, 3) := by decide +kernel
theorem d_Mo_greatest_66 : decode prog_10_method_32_code 66 = .ok (.iload_n 1, 1) := by decide +kernel
theorem d_Mo_greatest_67 : decode prog_10_method_32_code 67 = .ok (.ifCond .eq 21, 3) := by decide +kernel
theorem d_Mo_greatest_70 : decode prog_10_method_32_code 70 = .ok (.aload_n 0, 1) := by decide +kernel
theorem d_Mo_greatest_71 : decode prog_10_method_32_code 71 = .ok (.getfield 16, 3) := by decide +kernel
theorem d_Mo_greatest_74 : decode prog_10_method_32_code 74 = .ok (.iload 5, 2) := by decide +kernel
theorem d_Mo_greatest_76 : decode prog_10_method_32_code 76 = .ok (.iaload, 1) := by decide +kernel
theorem d_Mo_greatest_77 : decode prog_10_method_32_code 77 = .ok (.iload 6, 2) := by decide +kernel
theorem d_Mo_greatest_79 : decode prog_10_method_32_code 79 = .ok (.iand, 1) := by decide +kernel
theorem d_Mo_greatest_80 : decode prog_10_method_32_code 80 = .ok (.iload 6, 2) := by decide +kernel
theorem d_Mo_greatest_82 : decode prog_10_method_32_code 82 = .ok (.if_icmp .ne 22, 3) := by decide +kernel
theorem d_Mo_greatest_85 : decode prog_10_method_32_code 85 = .ok (.goto 15, 3) := by decide +kernel
theorem d_Mo_greatest_88 : decode prog_10_method_32_code 88 = .ok (.aload_n 0, 1) := by decide +kernel
theorem d_Mo_greatest_89 : decode prog_10_method_32_code 89 = .ok (.getfield 16, 3) := by decide +kernel
theorem d_Mo_greatest_92 : decode prog_10_method_32_code 92 = .ok (.iload 5, 2) := by decide +kernel
theorem d_Mo_greatest_94 : decode prog_10_method_32_code 94 = .ok (.iaload, 1) := by decide +kernel
theorem d_Mo_greatest_95 : decode prog_10_method_32_code 95 = .ok (.iload_n 3, 1) := by decide +kernel
theorem d_Mo_greatest_96 : decode prog_10_method_32_code 96 = .ok (.iand, 1) := by decide +kernel
theorem d_Mo_greatest_97 : decode prog_10_method_32_code 97 = .ok (.ifCond .ne 7, 3) := by decide +kernel
theorem d_Mo_greatest_100 : decode prog_10_method_32_code 100 = .ok (.iconst 1, 1) := by decide +kernel
theorem d_Mo_greatest_101 : decode prog_10_method_32_code 101 = .ok (.goto 4, 3) := by decide +kernel
theorem d_Mo_greatest_104 : decode prog_10_method_32_code 104 = .ok (.iconst 0, 1) := by decide +kernel
theorem d_Mo_greatest_105 : decode prog_10_method_32_code 105 = .ok (.istore 4, 2) := by decide +kernel
theorem d_Mo_greatest_107 : decode prog_10_method_32_code 107 = .ok (.iinc 5 1, 3) := by decide +kernel
theorem d_Mo_greatest_110 : decode prog_10_method_32_code 110 = .ok (.goto (-90), 3) := by decide +kernel
theorem d_Mo_greatest_113 : decode prog_10_method_32_code 113 = .ok (.iload_n 3, 1) := by decide +kernel
theorem d_Mo_greatest_114 : decode prog_10_method_32_code 114 = .ok (.iload_n 2, 1) := by decide +kernel
theorem d_Mo_greatest_115 : decode prog_10_method_32_code 115 = .ok (.ixor, 1) := by decide +kernel
theorem d_Mo_greatest_116 : decode prog_10_method_32_code 116 = .ok (.istore 5, 2) := by decide +kernel
theorem d_Mo_greatest_118 : decode prog_10_method_32_code 118 = .ok (.iload_n 3, 1) := by decide +kernel
theorem d_Mo_greatest_119 : decode prog_10_method_32_code 119 = .ok (.invokestatic 145, 3) := by decide +kernel
theorem d_Mo_greatest_122 : decode prog_10_method_32_code 122 = .ok (.iload_n 2, 1) := by decide +kernel
theorem d_Mo_greatest_123 : decode prog_10_method_32_code 123 = .ok (.invokestatic 145, 3) := by decide +kernel
theorem d_Mo_greatest_126 : decode prog_10_method_32_code 126 = .ok (.if_icmp .gt 25, 3) := by decide +kernel
theorem d_Mo_greatest_129 : decode prog_10_method_32_code 129 = .ok (.iload_n 3, 1) := by decide +kernel
theorem d_Mo_greatest_130 : decode prog_10_method_32_code 130 = .ok (.invokestatic 145, 3) := by decide +kernel
theorem d_Mo_greatest_133 : decode prog_10_method_32_code 133 = .ok (.iload_n 2, 1) := by decide +kernel
theorem d_Mo_greatest_134 : decode prog_10_method_32_code 134 = .ok (.invokestatic 145, 3) := by decide +kernel
theorem d_Mo_greatest_137 : decode prog_10_method_32_code 137 = .ok (.if_icmp .ne 18, 3) := by decide +kernel
theorem d_Mo_greatest_140 : decode prog_10_method_32_code 140 = .ok (.iload_n 3, 1) := by decide +kernel
theorem d_Mo_greatest_141 : decode prog_10_method_32_code 141 = .ok (.iload 5, 2) := by decide +kernel
theorem d_Mo_greatest_143 : decode prog_10_method_32_code 143 = .ok (.iand, 1) := by decide +kernel
theorem d_Mo_greatest_144 : decode prog_10_method_32_code 144 = .ok (.iload 5, 2) := by decide +kernel
theorem d_Mo_greatest_146 : decode prog_10_method_32_code 146 = .ok (.ineg, 1) := by decide +kernel
theorem d_Mo_greatest_147 : decode prog_10_method_32_code 147 = .ok (.iand, 1) := by decide +kernel
theorem d_Mo_greatest_148 : decode prog_10_method_32_code 148 = .ok (.ifCond .eq 7, 3) := by decide +kernel
theorem d_Mo_greatest_151 : decode prog_10_method_32_code 151 = .ok (.iconst 1, 1) := by decide +kernel
theorem d_Mo_greatest_152 : decode prog_10_method_32_code 152 = .ok (.goto 4, 3) := by decide +kernel
theorem d_Mo_greatest_155 : decode prog_10_method_32_code 155 = .ok (.iconst 0, 1) := by decide +kernel
theorem d_Mo_greatest_156 : decode prog_10_method_32_code 156 = .ok (.istore 6, 2) := by decide +kernel
theorem d_Mo_greatest_158 : decode prog_10_method_32_code 158 = .ok (.iload 4, 2) := by decide +kernel
theorem d_Mo_greatest_160 : decode prog_10_method_32_code 160 = .ok (.ifCond .eq 12, 3) := by decide +kernel
theorem d_Mo_greatest_163 : decode prog_10_method_32_code 163 = .ok (.iload 6, 2) := by decide +kernel
theorem d_Mo_greatest_165 : decode prog_10_method_32_code 165 = .ok (.ifCond .eq 7, 3) := by decide +kernel
theorem d_Mo_greatest_168 : decode prog_10_method_32_code 168 = .ok (.iload_n 3, 1) := by decide +kernel
theorem d_Mo_greatest_169 : decode prog_10_method_32_code 169 = .ok (.goto 4, 3) := by decide +kernel
theorem d_Mo_greatest_172 : decode prog_10_method_32_code 172 = .ok (.iload_n 2, 1) := by decide +kernel
theorem d_Mo_greatest_173 : decode prog_10_method_32_code 173 = .ok (.istore_n 2, 1) := by decide +kernel
theorem d_Mo_greatest_174 : decode prog_10_method_32_code 174 = .ok (.iinc 3 1, 3) := by decide +kernel
theorem d_Mo_greatest_177 : decode prog_10_method_32_code 177 = .ok (.goto (-173), 3) := by decide +kernel
theorem d_Mo_greatest_180 : decode prog_10_method_32_code 180 = .ok (.iload_n 2, 1) := by decide +kernel
theorem d_Mo_greatest_181 : decode prog_10_method_32_code 181 = .ok (.ireturn, 1) := by decide +kernel
abbrev wd_Mo_greatest (cI cJ cG cZ : ClassId) (a0 a0_from a0_to a0_near a0_lists a0_colours a0_shades a0_tints a0_attempt a0_taken a0_isApart a0_ways a0_next a0_splits a0_powers a0_row a0_many a0_can a0_could a0_arcRow a0_order a0_isOut : Nat) (v0_thrown : Int32) (v0_nodes : Int32) (v0_arcs : Int32) (v0_takenMany : Int32) (v0_leftBits : Int32) (v0_hasPolynomial : Int32) (v0_hasLists : Int32) (w0_near : Nat → Int32) : va_W := [(a0, .inr (8, [.int v0_thrown, .int v0_nodes, .int v0_arcs, .ref a0_from, .ref a0_to, .ref a0_near, .ref a0_lists, .ref a0_colours, .ref a0_shades, .ref a0_tints, .ref a0_attempt, .int v0_takenMany, .ref a0_taken, .int v0_leftBits, .ref a0_isApart, .ref a0_ways, .ref a0_next, .ref a0_splits, .ref a0_powers, .ref a0_row, .ref a0_many, .int v0_hasPolynomial, .int v0_hasLists, .ref a0_can, .ref a0_could, .ref a0_arcRow, .ref a0_order, .ref a0_isOut])), (a0_near, .inl (cI, 12, .inl w0_near))]
abbrev us_Mo_greatest : List Cond := .code y_Mo_greatest prog_10_method_32_code 8 (some .int) :: gtbl
abbrev rm_Mo_greatest : Room := { frames := 1, cells := 0, slots := 0, locals := 22 }
def m_Mo_greatest (F : Nat) (v0_thrown : Int32) (v0_nodes : Int32) (v0_arcs : Int32) (v0_takenMany : Int32) (v0_leftBits : Int32) (v0_hasPolynomial : Int32) (v0_hasLists : Int32) (w0_near : Nat → Int32) (p1 : Int32) : Option (Int32) :=
  gL (fun (k_4 : (Int32 × Int32) → Option (Int32)) (z_4 : Int32 × Int32) => match z_4 with
  | (x2_1, x3_2) =>
  if ((1 : Int32) <<< (v0_nodes &&& 31)) ≤ x3_2 then (
    some x2_1
  ) else (
    gL (fun (k_20 : (Int32 × Int32) → Option (Int32)) (z_20 : Int32 × Int32) => match z_20 with
    | (x4_4, x5_5) =>
    if v0_nodes ≤ x5_5 then (
      gB (x3_2 ^^^ x2_1) (fun x5_7 =>
      gM (m_Mo_count F x3_2) (fun q_8 =>
      gM (m_Mo_count F x2_1) (fun q_11 =>
      gB (α := Int32 → Option (Int32)) (fun s_14 =>
        if x4_4 = 0 then (
          gB (x3_2 + 1) (fun x3_16 =>
          k_4 (x2_1, x3_16))
        ) else (
          if s_14 = 0 then (
            gB (x3_2 + 1) (fun x3_18 =>
            k_4 (x2_1, x3_18))
          ) else (
            gB (x3_2 + 1) (fun x3_19 =>
            k_4 (x3_2, x3_19))
          )
        )
      ) (fun J_156 =>
      gB (α := Option (Int32)) (
        J_156 1
      ) (fun J_151 =>
      if q_11 < q_8 then (
        J_151
      ) else (
        gM (m_Mo_count F x3_2) (fun q_21 =>
        gM (m_Mo_count F x2_1) (fun q_24 =>
        gB (α := Option (Int32)) (
          J_156 0
        ) (fun J_155 =>
        if q_21 = q_24 then (
          if ((x3_2 &&& x5_7) &&& (-x5_7)) = 0 then (
            J_155
          ) else (
            J_151
          )
        ) else (
          J_155
        )
        )))
      )
      )
      ))))
    ) else (
      gB (x3_2 &&& (((1 : Int32) <<< (x5_5 &&& 31)) ^^^ (-1))) (fun x6_29 =>
      gB (α := Int32 → Option (Int32)) (fun s_30 =>
        if x4_4 = 0 then (
          gB (x5_5 + 1) (fun x5_32 =>
          k_20 (0, x5_32))
        ) else (
          gB (α := Option (Int32)) (
            gB (x5_5 + 1) (fun x5_33 =>
            k_20 (1, x5_33))
          ) (fun J_100 =>
          if s_30 = 0 then (
            J_100
          ) else (
            if p1 = 0 then (
              gC (inb x5_5 12) (
              if ((w0_near x5_5.toNatClampNeg) &&& x3_2) = 0 then (
                J_100
              ) else (
                gB (x5_5 + 1) (fun x5_38 =>
                k_20 (0, x5_38))
              ))
            ) else (
              gC (inb x5_5 12) (
              if ((w0_near x5_5.toNatClampNeg) &&& x6_29) = x6_29 then (
                J_100
              ) else (
                gB (x5_5 + 1) (fun x5_41 =>
                k_20 (0, x5_41))
              ))
            )
          )
          )
        )
      ) (fun J_54 =>
      if ((x3_2 >>> (x5_5 &&& 31)) &&& 1) = (1 : Int32) then (
        J_54 1
      ) else (
        J_54 0
      )
      ))
    )
    ) F (1, 0)
  )
  ) F (0, 1)
set_option maxHeartbeats 4000000 in
set_option maxRecDepth 100000 in
theorem c_Mo_greatest (l : Launch) (dC : Nat → ClassId) (dI : Nat → Nat → Nat) (cI cJ cG cZ : ClassId) (a0 a0_from a0_to a0_near a0_lists a0_colours a0_shades a0_tints a0_attempt a0_taken a0_isApart a0_ways a0_next a0_splits a0_powers a0_row a0_many a0_can a0_could a0_arcRow a0_order a0_isOut : Nat) (sz : Nat) (F : Nat) (v0_thrown : Int32) (v0_nodes : Int32) (v0_arcs : Int32) (v0_takenMany : Int32) (v0_leftBits : Int32) (v0_hasPolynomial : Int32) (v0_hasLists : Int32) (w0_near : Nat → Int32) (p1 : Int32) (ret : Int32) (hm : m_Mo_greatest F v0_thrown v0_nodes v0_arcs v0_takenMany v0_leftBits v0_hasPolynomial v0_hasLists w0_near p1 = some ret) : Met l y_Mo_greatest us_Mo_greatest rm_Mo_greatest (PcS (dC, dI) (tyL cI cJ cG cZ) [.ref a0, .int p1] sz (wd_Mo_greatest cI cJ cG cZ a0 a0_from a0_to a0_near a0_lists a0_colours a0_shades a0_tints a0_attempt a0_taken a0_isApart a0_ways a0_next a0_splits a0_powers a0_row a0_many a0_can a0_could a0_arcRow a0_order a0_isOut v0_thrown v0_nodes v0_arcs v0_takenMany v0_leftBits v0_hasPolynomial v0_hasLists w0_near)) (va_Qi (fun (r : Int32) (_ : Unit) => ret = r) (fun _ t => PoS (dC, dI) (tyL cI cJ cG cZ) (wd_Mo_greatest cI cJ cG cZ a0 a0_from a0_to a0_near a0_lists a0_colours a0_shades a0_tints a0_attempt a0_taken a0_isApart a0_ways a0_next a0_splits a0_powers a0_row a0_many a0_can a0_could a0_arcRow a0_order a0_isOut v0_thrown v0_nodes v0_arcs v0_takenMany v0_leftBits v0_hasPolynomial v0_hasLists w0_near) (va_A (wd_Mo_greatest cI cJ cG cZ a0 a0_from a0_to a0_near a0_lists a0_colours a0_shades a0_tints a0_attempt a0_taken a0_isApart a0_ways a0_next a0_splits a0_powers a0_row a0_many a0_can a0_could a0_arcRow a0_order a0_isOut v0_thrown v0_nodes v0_arcs v0_takenMany v0_leftBits v0_hasPolynomial v0_hasLists w0_near) sz) t) (va_A (wd_Mo_greatest cI cJ cG cZ a0 a0_from a0_to a0_near a0_lists a0_colours a0_shades a0_tints a0_attempt a0_taken a0_isApart a0_ways a0_next a0_splits a0_powers a0_row a0_many a0_can a0_could a0_arcRow a0_order a0_isOut v0_thrown v0_nodes v0_arcs v0_takenMany v0_leftBits v0_hasPolynomial v0_hasLists w0_near) sz)) 0 0 (va_A (wd_Mo_greatest cI cJ cG cZ a0 a0_from a0_to a0_near a0_lists a0_colours a0_shades a0_tints a0_attempt a0_taken a0_isApart a0_ways a0_next a0_splits a0_powers a0_row a0_many a0_can a0_could a0_arcRow a0_order a0_isOut v0_thrown v0_nodes v0_arcs v0_takenMany v0_leftBits v0_hasPolynomial v0_hasLists w0_near) sz) := by
  refine Met.ofW (cc := prog_10_method_32_code) (maxL := 8) (ret := (some .int)) (by decide) rfl ?_
  intro p e s m args below meth c s₁ B hml hv
  obtain ⟨rfl, hsz, hP, hK, hD0, hNw⟩ := hv
  have hx := B.exec
  have hb := B.bytes
  have hr := B.returns
  have htt : ∀ w ∈ gtbl, w.before _ s = true := fun w h => atoms_spec (ws := us_Mo_greatest) B.pre w (List.mem_cons_of_mem _ h)
  have hown : s.vm.findClass R_Mo = some m.cls := findClass_of_methodNamed B.named
  have hlocks := B.notSynchronized
  subst hsz
  have hD := hD0.self (sz := s.heap.size)
  generalize hAe : va_A (wd_Mo_greatest cI cJ cG cZ a0 a0_from a0_to a0_near a0_lists a0_colours a0_shades a0_tints a0_attempt a0_taken a0_isApart a0_ways a0_next a0_splits a0_powers a0_row a0_many a0_can a0_could a0_arcRow a0_order a0_isOut v0_thrown v0_nodes v0_arcs v0_takenMany v0_leftBits v0_hasPolynomial v0_hasLists w0_near) s.heap.size = A at hD ⊢
  have hA : ∀ q : Nat, s.heap.size ≤ q → A q := fun q h => by rw [← hAe]; exact Or.inr h
  clear hAe hD0
  have hS : va_S A s.heap s.heap [] := va_S.rf
  have hl := lv_entry ([.ref a0, .int p1]) (n := 8) (Nat.le_of_ble_eq_true rfl)
  rw [lg_entry_eq]
  generalize (lg_sl ([.ref a0, .int p1]) ++ List.replicate (8 - (lg_sl ([.ref a0, .int p1])).length) Slot.unset).toArray = ls at hl ⊢
  have hl : lv_has ls 8 [(0, .ref a0), (1, .int p1)] := hl
  generalize hH : s.heap = H at hP ⊢
  have hS : va_S A s.heap H [] := hH ▸ hS
  generalize hLo : ([] : List Loc) = locs at hS ⊢
  clear hH hLo
  unfold m_Mo_greatest at hm
  refine lv_iconst (v := 0) hx hb d_Mo_greatest_0 (by decide) ?_
  refine lv_istore_n (lv' := [(2, .int 0), (0, .ref a0), (1, .int p1)]) hx hb d_Mo_greatest_1 rfl hl (by decide) rfl (fun ls hl => ?_)
  refine lv_iconst (v := 1) hx hb d_Mo_greatest_2 (by decide) ?_
  refine lv_istore_n (lv' := [(3, .int 1), (2, .int 0), (0, .ref a0), (1, .int p1)]) hx hb d_Mo_greatest_3 rfl hl (by decide) rfl (fun ls hl => ?_)
  refine gL_e (P := (fun (z_4 : Int32 × Int32) => ∀ (x2_1 : Int32), ∀ (x3_2 : Int32), z_4 = (x2_1, x3_2) → ∀ (ls : Array Slot) (H : Heap) (locs : List Loc), lv_has ls 8 [(0, .ref a0), (1, .int p1), (2, .int x2_1), (3, .int x3_2)] → va_P (dC, dI) vwCl (wd_Mo_greatest cI cJ cG cZ a0 a0_from a0_to a0_near a0_lists a0_colours a0_shades a0_tints a0_attempt a0_taken a0_isApart a0_ways a0_next a0_splits a0_powers a0_row a0_many a0_can a0_could a0_arcRow a0_order a0_isOut v0_thrown v0_nodes v0_arcs v0_takenMany v0_leftBits v0_hasPolynomial v0_hasLists w0_near) H → va_D A (wd_Mo_greatest cI cJ cG cZ a0 a0_from a0_to a0_near a0_lists a0_colours a0_shades a0_tints a0_attempt a0_taken a0_isApart a0_ways a0_next a0_splits a0_powers a0_row a0_many a0_can a0_could a0_arcRow a0_order a0_isOut v0_thrown v0_nodes v0_arcs v0_takenMany v0_leftBits v0_hasPolynomial v0_hasLists w0_near) → va_S A s.heap H locs → W p l e (headSpec us_Mo_greatest rm_Mo_greatest).room s m ([.ref a0, .int p1] : List Value).toArray below meth c H locs 0 0 (MQ below (va_Qi (fun (r : Int32) (_ : Unit) => ret = r) (fun _ t => PoS (dC, dI) (tyL cI cJ cG cZ) (wd_Mo_greatest cI cJ cG cZ a0 a0_from a0_to a0_near a0_lists a0_colours a0_shades a0_tints a0_attempt a0_taken a0_isApart a0_ways a0_next a0_splits a0_powers a0_row a0_many a0_can a0_could a0_arcRow a0_order a0_isOut v0_thrown v0_nodes v0_arcs v0_takenMany v0_leftBits v0_hasPolynomial v0_hasLists w0_near) A t) A) ([.ref a0, .int p1] : List Value).toArray s 0 0 A) (F0 m 4 ls []))) hm (fun k_4 z_4 ih_4 hm => ?_) _ _ rfl ls H locs (lv_sub hl [2, 3, 1, 0] rfl) hP hD hS
  intro x2_1 x3_2 hz ls H locs hl hP hD hS
  subst hz
  dsimp only at hm
  refine lv_iload_n hx hb d_Mo_greatest_4 rfl (lv_at hl 3 rfl) ?_
  refine lv_iconst (v := 1) hx hb d_Mo_greatest_5 (by decide) ?_
  refine lv_aload_n hx hb d_Mo_greatest_6 rfl (lv_at hl 0 rfl) ?_
  refine va_get (D := (dC, dI)) (ci := 8) (v := .int v0_nodes) (C := R_Mo) (T := T_Mo) (N := 28) hx hb htt hin_Mo hown hK hP 0 rfl rfl 1 (by decide) (htt _ kt_770) (fun _ h9 => h9) rfl d_Mo_greatest_7 ?_
  refine lv_ishl hx hb d_Mo_greatest_10 ?_
  refine lv_icmp_ge (tgt := 180) hx hb d_Mo_greatest_11 (by decide) (fun c_3 => ?_) (fun c_3 => ?_)
  · have hm := ite_t c_3 hm
    refine lv_iload_n hx hb d_Mo_greatest_180 rfl (lv_at hl 2 rfl) ?_
    cases hm
    exact W.iret hx hb hr (fun t ht hW => ⟨⟨_, (), rfl, rfl, by rw [ht]; exact hP, va_K.moved hW.alike hK, hD⟩, hS.F ht⟩) hS.2.2 d_Mo_greatest_181
  · have hm := ite_f c_3 hm
    refine lv_iconst (v := 1) hx hb d_Mo_greatest_14 (by decide) ?_
    refine lv_istore (lv' := [(4, .int 1), (0, .ref a0), (1, .int p1), (2, .int x2_1), (3, .int x3_2)]) hx hb d_Mo_greatest_15 hl (by decide) rfl (fun ls hl => ?_)
    refine lv_iconst (v := 0) hx hb d_Mo_greatest_17 (by decide) ?_
    refine lv_istore (lv' := [(5, .int 0), (4, .int 1), (0, .ref a0), (1, .int p1), (2, .int x2_1), (3, .int x3_2)]) hx hb d_Mo_greatest_18 hl (by decide) rfl (fun ls hl => ?_)
    refine gL_e (P := (fun (z_20 : Int32 × Int32) => ∀ (x4_4 : Int32), ∀ (x5_5 : Int32), z_20 = (x4_4, x5_5) → ∀ (ls : Array Slot) (H : Heap) (locs : List Loc), lv_has ls 8 [(0, .ref a0), (1, .int p1), (2, .int x2_1), (3, .int x3_2), (4, .int x4_4), (5, .int x5_5)] → va_P (dC, dI) vwCl (wd_Mo_greatest cI cJ cG cZ a0 a0_from a0_to a0_near a0_lists a0_colours a0_shades a0_tints a0_attempt a0_taken a0_isApart a0_ways a0_next a0_splits a0_powers a0_row a0_many a0_can a0_could a0_arcRow a0_order a0_isOut v0_thrown v0_nodes v0_arcs v0_takenMany v0_leftBits v0_hasPolynomial v0_hasLists w0_near) H → va_D A (wd_Mo_greatest cI cJ cG cZ a0 a0_from a0_to a0_near a0_lists a0_colours a0_shades a0_tints a0_attempt a0_taken a0_isApart a0_ways a0_next a0_splits a0_powers a0_row a0_many a0_can a0_could a0_arcRow a0_order a0_isOut v0_thrown v0_nodes v0_arcs v0_takenMany v0_leftBits v0_hasPolynomial v0_hasLists w0_near) → va_S A s.heap H locs → W p l e (headSpec us_Mo_greatest rm_Mo_greatest).room s m ([.ref a0, .int p1] : List Value).toArray below meth c H locs 0 0 (MQ below (va_Qi (fun (r : Int32) (_ : Unit) => ret = r) (fun _ t => PoS (dC, dI) (tyL cI cJ cG cZ) (wd_Mo_greatest cI cJ cG cZ a0 a0_from a0_to a0_near a0_lists a0_colours a0_shades a0_tints a0_attempt a0_taken a0_isApart a0_ways a0_next a0_splits a0_powers a0_row a0_many a0_can a0_could a0_arcRow a0_order a0_isOut v0_thrown v0_nodes v0_arcs v0_takenMany v0_leftBits v0_hasPolynomial v0_hasLists w0_near) A t) A) ([.ref a0, .int p1] : List Value).toArray s 0 0 A) (F0 m 20 ls []))) hm (fun k_20 z_20 ih_20 hm => ?_) _ _ rfl ls H locs (lv_sub hl [2, 3, 4, 5, 1, 0] rfl) hP hD hS
    intro x4_4 x5_5 hz ls H locs hl hP hD hS
    subst hz
    dsimp only at hm
    refine lv_iload hx hb d_Mo_greatest_20 (lv_at hl 5 rfl) ?_
    refine lv_aload_n hx hb d_Mo_greatest_22 rfl (lv_at hl 0 rfl) ?_
    refine va_get (D := (dC, dI)) (ci := 8) (v := .int v0_nodes) (C := R_Mo) (T := T_Mo) (N := 28) hx hb htt hin_Mo hown hK hP 0 rfl rfl 1 (by decide) (htt _ kt_770) (fun _ h9 => h9) rfl d_Mo_greatest_23 ?_
    refine lv_icmp_ge (tgt := 113) hx hb d_Mo_greatest_26 (by decide) (fun c_6 => ?_) (fun c_6 => ?_)
    · have hm := ite_t c_6 hm
      refine lv_iload_n hx hb d_Mo_greatest_113 rfl (lv_at hl 3 rfl) ?_
      refine lv_iload_n hx hb d_Mo_greatest_114 rfl (lv_at hl 2 rfl) ?_
      refine lv_ixor hx hb d_Mo_greatest_115 ?_
      refine lv_topi (fun x5_7 ex5_7 => ?_)
      have hm := gB_at ex5_7 hm
      refine lv_istore (lv' := [(5, .int x5_7), (0, .ref a0), (1, .int p1), (2, .int x2_1), (3, .int x3_2), (4, .int x4_4)]) hx hb d_Mo_greatest_116 hl (by decide) rfl (fun ls hl => ?_)
      refine lv_iload_n hx hb d_Mo_greatest_118 rfl (lv_at hl 4 rfl) ?_
      obtain ⟨q_8, hc_9, hm⟩ := gM_e hm
      have hPc : va_P (dC, dI) vwCl (wd_Mo_count cI cJ cG cZ) H := hP.sub [] rfl
      have hDc : va_D A (wd_Mo_count cI cJ cG cZ) := hD.sub [] (by decide) rfl
      have hFc : ∀ q, va_A (wd_Mo_count cI cJ cG cZ) H.size q → A q := va_free hD hS hA [] rfl
      refine va_calli (va_runS (As := [.int x3_2]) (rest := []) ⟨hx, hb, hml, hown, htt⟩ (c_Mo_count l dC dI cI cJ cG cZ H.size F x3_2 q_8 hc_9) (cwS 1 htt (gdS kt_972 kt_973 kt_10 kt_974) rfl rfl rfl (by decide +kernel) ⟨(Nat.le_of_ble_eq_true rfl), (Nat.le_of_ble_eq_true rfl)⟩) ⟨PcS_blind, PcS_in hPc hK hDc hNw⟩ rfl rfl hl.1 rfl (lv_room (Nat.le_of_ble_eq_true rfl)) d_Mo_greatest_119 ⟨Nat.zero_le _, Nat.zero_le _⟩) hS (fun q _ h => hFc q h) hFc (fun r_10 u t H1 locs ht hvm hw hB hz1 hk1 hS => ?_)
      obtain ⟨hP1, hK1, hD1⟩ := hB
      rw [ht] at hP1
      subst hw
      obtain ⟨hP, hD⟩ := va_join (wr := [(a0, .inr (8, [.int v0_thrown, .int v0_nodes, .int v0_arcs, .ref a0_from, .ref a0_to, .ref a0_near, .ref a0_lists, .ref a0_colours, .ref a0_shades, .ref a0_tints, .ref a0_attempt, .int v0_takenMany, .ref a0_taken, .int v0_leftBits, .ref a0_isApart, .ref a0_ways, .ref a0_next, .ref a0_splits, .ref a0_powers, .ref a0_row, .ref a0_many, .int v0_hasPolynomial, .int v0_hasLists, .ref a0_can, .ref a0_could, .ref a0_arcRow, .ref a0_order, .ref a0_isOut])), (a0_near, .inl (cI, 12, .inl w0_near))]) (w1 := (wd_Mo_count cI cJ cG cZ)) hP hD [] [0, 1] rfl rfl (by decide) (by decide) hk1 hFc hP1 hD1
      have hP : va_P (dC, dI) vwCl (wd_Mo_greatest cI cJ cG cZ a0 a0_from a0_to a0_near a0_lists a0_colours a0_shades a0_tints a0_attempt a0_taken a0_isApart a0_ways a0_next a0_splits a0_powers a0_row a0_many a0_can a0_could a0_arcRow a0_order a0_isOut v0_thrown v0_nodes v0_arcs v0_takenMany v0_leftBits v0_hasPolynomial v0_hasLists w0_near) H1 := hP.sub [0, 1] rfl
      have hD : va_D A (wd_Mo_greatest cI cJ cG cZ a0 a0_from a0_to a0_near a0_lists a0_colours a0_shades a0_tints a0_attempt a0_taken a0_isApart a0_ways a0_next a0_splits a0_powers a0_row a0_many a0_can a0_could a0_arcRow a0_order a0_isOut v0_thrown v0_nodes v0_arcs v0_takenMany v0_leftBits v0_hasPolynomial v0_hasLists w0_near) := hD.sub [0, 1] (by decide) rfl
      clear hP1 hK1 hD1 hk1 hPc hDc hFc ht hvm hz1
      generalize H1 = H at hP hS ⊢
      refine lv_iload_n hx hb d_Mo_greatest_122 rfl (lv_at hl 3 rfl) ?_
      obtain ⟨q_11, hc_12, hm⟩ := gM_e hm
      have hPc : va_P (dC, dI) vwCl (wd_Mo_count cI cJ cG cZ) H := hP.sub [] rfl
      have hDc : va_D A (wd_Mo_count cI cJ cG cZ) := hD.sub [] (by decide) rfl
      have hFc : ∀ q, va_A (wd_Mo_count cI cJ cG cZ) H.size q → A q := va_free hD hS hA [] rfl
      refine va_calli (va_runS (As := [.int x2_1]) (rest := [.int q_8]) ⟨hx, hb, hml, hown, htt⟩ (c_Mo_count l dC dI cI cJ cG cZ H.size F x2_1 q_11 hc_12) (cwS 1 htt (gdS kt_972 kt_973 kt_10 kt_974) rfl rfl rfl (by decide +kernel) ⟨(Nat.le_of_ble_eq_true rfl), (Nat.le_of_ble_eq_true rfl)⟩) ⟨PcS_blind, PcS_in hPc hK hDc hNw⟩ rfl rfl hl.1 rfl (lv_room (Nat.le_of_ble_eq_true rfl)) d_Mo_greatest_123 ⟨Nat.zero_le _, Nat.zero_le _⟩) hS (fun q _ h => hFc q h) hFc (fun r_13 u t H1 locs ht hvm hw hB hz1 hk1 hS => ?_)
      obtain ⟨hP1, hK1, hD1⟩ := hB
      rw [ht] at hP1
      subst hw
      obtain ⟨hP, hD⟩ := va_join (wr := [(a0, .inr (8, [.int v0_thrown, .int v0_nodes, .int v0_arcs, .ref a0_from, .ref a0_to, .ref a0_near, .ref a0_lists, .ref a0_colours, .ref a0_shades, .ref a0_tints, .ref a0_attempt, .int v0_takenMany, .ref a0_taken, .int v0_leftBits, .ref a0_isApart, .ref a0_ways, .ref a0_next, .ref a0_splits, .ref a0_powers, .ref a0_row, .ref a0_many, .int v0_hasPolynomial, .int v0_hasLists, .ref a0_can, .ref a0_could, .ref a0_arcRow, .ref a0_order, .ref a0_isOut])), (a0_near, .inl (cI, 12, .inl w0_near))]) (w1 := (wd_Mo_count cI cJ cG cZ)) hP hD [] [0, 1] rfl rfl (by decide) (by decide) hk1 hFc hP1 hD1
      have hP : va_P (dC, dI) vwCl (wd_Mo_greatest cI cJ cG cZ a0 a0_from a0_to a0_near a0_lists a0_colours a0_shades a0_tints a0_attempt a0_taken a0_isApart a0_ways a0_next a0_splits a0_powers a0_row a0_many a0_can a0_could a0_arcRow a0_order a0_isOut v0_thrown v0_nodes v0_arcs v0_takenMany v0_leftBits v0_hasPolynomial v0_hasLists w0_near) H1 := hP.sub [0, 1] rfl
      have hD : va_D A (wd_Mo_greatest cI cJ cG cZ a0 a0_from a0_to a0_near a0_lists a0_colours a0_shades a0_tints a0_attempt a0_taken a0_isApart a0_ways a0_next a0_splits a0_powers a0_row a0_many a0_can a0_could a0_arcRow a0_order a0_isOut v0_thrown v0_nodes v0_arcs v0_takenMany v0_leftBits v0_hasPolynomial v0_hasLists w0_near) := hD.sub [0, 1] (by decide) rfl
      clear hP1 hK1 hD1 hk1 hPc hDc hFc ht hvm hz1
      generalize H1 = H at hP hS ⊢
      obtain ⟨J_156, hJ_156, hm⟩ := gB_x hm
      have jp_156 : ∀ (s_14 : Int32) (ls : Array Slot) (H : Heap) (locs : List Loc), J_156 s_14 = some ret → lv_has ls 8 [(0, .ref a0), (1, .int p1), (2, .int x2_1), (3, .int x3_2), (4, .int x4_4)] → va_P (dC, dI) vwCl (wd_Mo_greatest cI cJ cG cZ a0 a0_from a0_to a0_near a0_lists a0_colours a0_shades a0_tints a0_attempt a0_taken a0_isApart a0_ways a0_next a0_splits a0_powers a0_row a0_many a0_can a0_could a0_arcRow a0_order a0_isOut v0_thrown v0_nodes v0_arcs v0_takenMany v0_leftBits v0_hasPolynomial v0_hasLists w0_near) H → va_D A (wd_Mo_greatest cI cJ cG cZ a0 a0_from a0_to a0_near a0_lists a0_colours a0_shades a0_tints a0_attempt a0_taken a0_isApart a0_ways a0_next a0_splits a0_powers a0_row a0_many a0_can a0_could a0_arcRow a0_order a0_isOut v0_thrown v0_nodes v0_arcs v0_takenMany v0_leftBits v0_hasPolynomial v0_hasLists w0_near) → va_S A s.heap H locs → W p l e (headSpec us_Mo_greatest rm_Mo_greatest).room s m ([.ref a0, .int p1] : List Value).toArray below meth c H locs 0 0 (MQ below (va_Qi (fun (r : Int32) (_ : Unit) => ret = r) (fun _ t => PoS (dC, dI) (tyL cI cJ cG cZ) (wd_Mo_greatest cI cJ cG cZ a0 a0_from a0_to a0_near a0_lists a0_colours a0_shades a0_tints a0_attempt a0_taken a0_isApart a0_ways a0_next a0_splits a0_powers a0_row a0_many a0_can a0_could a0_arcRow a0_order a0_isOut v0_thrown v0_nodes v0_arcs v0_takenMany v0_leftBits v0_hasPolynomial v0_hasLists w0_near) A t) A) ([.ref a0, .int p1] : List Value).toArray s 0 0 A) (F0 m 156 ls [.int s_14]) := by
        intro s_14 ls H locs hm hl hP hD hS
        have hm := jn1 hJ_156 hm
        refine lv_istore (lv' := [(6, .int s_14), (0, .ref a0), (1, .int p1), (2, .int x2_1), (3, .int x3_2), (4, .int x4_4)]) hx hb d_Mo_greatest_156 hl (by decide) rfl (fun ls hl => ?_)
        refine lv_iload hx hb d_Mo_greatest_158 (lv_at hl 5 rfl) ?_
        refine lv_if_eq (tgt := 172) hx hb d_Mo_greatest_160 (by decide) (fun c_15 => ?_) (fun c_15 => ?_)
        · have hm := ite_t c_15 hm
          refine lv_iload_n hx hb d_Mo_greatest_172 rfl (lv_at hl 3 rfl) ?_
          refine lv_istore_n (lv' := [(2, .int x2_1), (6, .int s_14), (0, .ref a0), (1, .int p1), (3, .int x3_2), (4, .int x4_4)]) hx hb d_Mo_greatest_173 rfl hl (by decide) rfl (fun ls hl => ?_)
          obtain ⟨x3_16, ex3_16⟩ : ∃ y : Int32, y = x3_2 + 1 := ⟨_, rfl⟩
          have hm := gB_at ex3_16 hm
          refine lv_iinc (v := x3_16) (lv' := [(3, .int x3_16), (2, .int x2_1), (6, .int s_14), (0, .ref a0), (1, .int p1), (4, .int x4_4)]) hx hb d_Mo_greatest_174 hl (k := 4) rfl (by rw [ex3_16]; rfl) (by decide) rfl (fun ls hl => ?_)
          refine lv_goto (tgt := 4) hx hb d_Mo_greatest_177 (by decide) ?_
          exact ih_4 _ hm _ _ rfl ls H locs (lv_sub hl [3, 4, 1, 0] rfl) hP hD hS
        · have hm := ite_f c_15 hm
          refine lv_iload hx hb d_Mo_greatest_163 (lv_at hl 0 rfl) ?_
          refine lv_if_eq (tgt := 172) hx hb d_Mo_greatest_165 (by decide) (fun c_17 => ?_) (fun c_17 => ?_)
          · have hm := ite_t c_17 hm
            refine lv_iload_n hx hb d_Mo_greatest_172 rfl (lv_at hl 3 rfl) ?_
            refine lv_istore_n (lv' := [(2, .int x2_1), (6, .int s_14), (0, .ref a0), (1, .int p1), (3, .int x3_2), (4, .int x4_4)]) hx hb d_Mo_greatest_173 rfl hl (by decide) rfl (fun ls hl => ?_)
            obtain ⟨x3_18, ex3_18⟩ : ∃ y : Int32, y = x3_2 + 1 := ⟨_, rfl⟩
            have hm := gB_at ex3_18 hm
            refine lv_iinc (v := x3_18) (lv' := [(3, .int x3_18), (2, .int x2_1), (6, .int s_14), (0, .ref a0), (1, .int p1), (4, .int x4_4)]) hx hb d_Mo_greatest_174 hl (k := 4) rfl (by rw [ex3_18]; rfl) (by decide) rfl (fun ls hl => ?_)
            refine lv_goto (tgt := 4) hx hb d_Mo_greatest_177 (by decide) ?_
            exact ih_4 _ hm _ _ rfl ls H locs (lv_sub hl [3, 4, 1, 0] rfl) hP hD hS
          · have hm := ite_f c_17 hm
            refine lv_iload_n hx hb d_Mo_greatest_168 rfl (lv_at hl 4 rfl) ?_
            refine lv_goto (tgt := 173) hx hb d_Mo_greatest_169 (by decide) ?_
            refine lv_istore_n (lv' := [(2, .int x3_2), (6, .int s_14), (0, .ref a0), (1, .int p1), (3, .int x3_2), (4, .int x4_4)]) hx hb d_Mo_greatest_173 rfl hl (by decide) rfl (fun ls hl => ?_)
            obtain ⟨x3_19, ex3_19⟩ : ∃ y : Int32, y = x3_2 + 1 := ⟨_, rfl⟩
            have hm := gB_at ex3_19 hm
            refine lv_iinc (v := x3_19) (lv' := [(3, .int x3_19), (2, .int x3_2), (6, .int s_14), (0, .ref a0), (1, .int p1), (4, .int x4_4)]) hx hb d_Mo_greatest_174 hl (k := 4) rfl (by rw [ex3_19]; rfl) (by decide) rfl (fun ls hl => ?_)
            refine lv_goto (tgt := 4) hx hb d_Mo_greatest_177 (by decide) ?_
            exact ih_4 _ hm _ _ rfl ls H locs (lv_sub hl [3, 4, 1, 0] rfl) hP hD hS
      clear hJ_156
      obtain ⟨J_151, hJ_151, hm⟩ := gB_x hm
      have jp_151 : ∀ (ls : Array Slot) (H : Heap) (locs : List Loc), J_151 = some ret → lv_has ls 8 [(0, .ref a0), (1, .int p1), (2, .int x2_1), (3, .int x3_2), (4, .int x4_4)] → va_P (dC, dI) vwCl (wd_Mo_greatest cI cJ cG cZ a0 a0_from a0_to a0_near a0_lists a0_colours a0_shades a0_tints a0_attempt a0_taken a0_isApart a0_ways a0_next a0_splits a0_powers a0_row a0_many a0_can a0_could a0_arcRow a0_order a0_isOut v0_thrown v0_nodes v0_arcs v0_takenMany v0_leftBits v0_hasPolynomial v0_hasLists w0_near) H → va_D A (wd_Mo_greatest cI cJ cG cZ a0 a0_from a0_to a0_near a0_lists a0_colours a0_shades a0_tints a0_attempt a0_taken a0_isApart a0_ways a0_next a0_splits a0_powers a0_row a0_many a0_can a0_could a0_arcRow a0_order a0_isOut v0_thrown v0_nodes v0_arcs v0_takenMany v0_leftBits v0_hasPolynomial v0_hasLists w0_near) → va_S A s.heap H locs → W p l e (headSpec us_Mo_greatest rm_Mo_greatest).room s m ([.ref a0, .int p1] : List Value).toArray below meth c H locs 0 0 (MQ below (va_Qi (fun (r : Int32) (_ : Unit) => ret = r) (fun _ t => PoS (dC, dI) (tyL cI cJ cG cZ) (wd_Mo_greatest cI cJ cG cZ a0 a0_from a0_to a0_near a0_lists a0_colours a0_shades a0_tints a0_attempt a0_taken a0_isApart a0_ways a0_next a0_splits a0_powers a0_row a0_many a0_can a0_could a0_arcRow a0_order a0_isOut v0_thrown v0_nodes v0_arcs v0_takenMany v0_leftBits v0_hasPolynomial v0_hasLists w0_near) A t) A) ([.ref a0, .int p1] : List Value).toArray s 0 0 A) (F0 m 151 ls []) := by
        intro ls H locs hm hl hP hD hS
        have hm := jn0 hJ_151 hm
        refine lv_iconst (v := 1) hx hb d_Mo_greatest_151 (by decide) ?_
        refine lv_goto (tgt := 156) hx hb d_Mo_greatest_152 (by decide) ?_
        exact jp_156 _ ls H locs hm (lv_sub hl [0, 1, 2, 3, 4] rfl) hP hD hS
      clear hJ_151
      refine lv_icmp_gt (tgt := 151) hx hb d_Mo_greatest_126 (by decide) (fun c_20 => ?_) (fun c_20 => ?_)
      · have hm := ite_t c_20 hm
        exact jp_151 ls H locs hm (lv_sub hl [1, 2, 3, 4, 5] rfl) hP hD hS
      · have hm := ite_f c_20 hm
        refine lv_iload_n hx hb d_Mo_greatest_129 rfl (lv_at hl 4 rfl) ?_
        obtain ⟨q_21, hc_22, hm⟩ := gM_e hm
        have hPc : va_P (dC, dI) vwCl (wd_Mo_count cI cJ cG cZ) H := hP.sub [] rfl
        have hDc : va_D A (wd_Mo_count cI cJ cG cZ) := hD.sub [] (by decide) rfl
        have hFc : ∀ q, va_A (wd_Mo_count cI cJ cG cZ) H.size q → A q := va_free hD hS hA [] rfl
        refine va_calli (va_runS (As := [.int x3_2]) (rest := []) ⟨hx, hb, hml, hown, htt⟩ (c_Mo_count l dC dI cI cJ cG cZ H.size F x3_2 q_21 hc_22) (cwS 1 htt (gdS kt_972 kt_973 kt_10 kt_974) rfl rfl rfl (by decide +kernel) ⟨(Nat.le_of_ble_eq_true rfl), (Nat.le_of_ble_eq_true rfl)⟩) ⟨PcS_blind, PcS_in hPc hK hDc hNw⟩ rfl rfl hl.1 rfl (lv_room (Nat.le_of_ble_eq_true rfl)) d_Mo_greatest_130 ⟨Nat.zero_le _, Nat.zero_le _⟩) hS (fun q _ h => hFc q h) hFc (fun r_23 u t H1 locs ht hvm hw hB hz1 hk1 hS => ?_)
        obtain ⟨hP1, hK1, hD1⟩ := hB
        rw [ht] at hP1
        subst hw
        obtain ⟨hP, hD⟩ := va_join (wr := [(a0, .inr (8, [.int v0_thrown, .int v0_nodes, .int v0_arcs, .ref a0_from, .ref a0_to, .ref a0_near, .ref a0_lists, .ref a0_colours, .ref a0_shades, .ref a0_tints, .ref a0_attempt, .int v0_takenMany, .ref a0_taken, .int v0_leftBits, .ref a0_isApart, .ref a0_ways, .ref a0_next, .ref a0_splits, .ref a0_powers, .ref a0_row, .ref a0_many, .int v0_hasPolynomial, .int v0_hasLists, .ref a0_can, .ref a0_could, .ref a0_arcRow, .ref a0_order, .ref a0_isOut])), (a0_near, .inl (cI, 12, .inl w0_near))]) (w1 := (wd_Mo_count cI cJ cG cZ)) hP hD [] [0, 1] rfl rfl (by decide) (by decide) hk1 hFc hP1 hD1
        have hP : va_P (dC, dI) vwCl (wd_Mo_greatest cI cJ cG cZ a0 a0_from a0_to a0_near a0_lists a0_colours a0_shades a0_tints a0_attempt a0_taken a0_isApart a0_ways a0_next a0_splits a0_powers a0_row a0_many a0_can a0_could a0_arcRow a0_order a0_isOut v0_thrown v0_nodes v0_arcs v0_takenMany v0_leftBits v0_hasPolynomial v0_hasLists w0_near) H1 := hP.sub [0, 1] rfl
        have hD : va_D A (wd_Mo_greatest cI cJ cG cZ a0 a0_from a0_to a0_near a0_lists a0_colours a0_shades a0_tints a0_attempt a0_taken a0_isApart a0_ways a0_next a0_splits a0_powers a0_row a0_many a0_can a0_could a0_arcRow a0_order a0_isOut v0_thrown v0_nodes v0_arcs v0_takenMany v0_leftBits v0_hasPolynomial v0_hasLists w0_near) := hD.sub [0, 1] (by decide) rfl
        clear hP1 hK1 hD1 hk1 hPc hDc hFc ht hvm hz1
        generalize H1 = H at hP hS ⊢
        refine lv_iload_n hx hb d_Mo_greatest_133 rfl (lv_at hl 3 rfl) ?_
        obtain ⟨q_24, hc_25, hm⟩ := gM_e hm
        have hPc : va_P (dC, dI) vwCl (wd_Mo_count cI cJ cG cZ) H := hP.sub [] rfl
        have hDc : va_D A (wd_Mo_count cI cJ cG cZ) := hD.sub [] (by decide) rfl
        have hFc : ∀ q, va_A (wd_Mo_count cI cJ cG cZ) H.size q → A q := va_free hD hS hA [] rfl
        refine va_calli (va_runS (As := [.int x2_1]) (rest := [.int q_21]) ⟨hx, hb, hml, hown, htt⟩ (c_Mo_count l dC dI cI cJ cG cZ H.size F x2_1 q_24 hc_25) (cwS 1 htt (gdS kt_972 kt_973 kt_10 kt_974) rfl rfl rfl (by decide +kernel) ⟨(Nat.le_of_ble_eq_true rfl), (Nat.le_of_ble_eq_true rfl)⟩) ⟨PcS_blind, PcS_in hPc hK hDc hNw⟩ rfl rfl hl.1 rfl (lv_room (Nat.le_of_ble_eq_true rfl)) d_Mo_greatest_134 ⟨Nat.zero_le _, Nat.zero_le _⟩) hS (fun q _ h => hFc q h) hFc (fun r_26 u t H1 locs ht hvm hw hB hz1 hk1 hS => ?_)
        obtain ⟨hP1, hK1, hD1⟩ := hB
        rw [ht] at hP1
        subst hw
        obtain ⟨hP, hD⟩ := va_join (wr := [(a0, .inr (8, [.int v0_thrown, .int v0_nodes, .int v0_arcs, .ref a0_from, .ref a0_to, .ref a0_near, .ref a0_lists, .ref a0_colours, .ref a0_shades, .ref a0_tints, .ref a0_attempt, .int v0_takenMany, .ref a0_taken, .int v0_leftBits, .ref a0_isApart, .ref a0_ways, .ref a0_next, .ref a0_splits, .ref a0_powers, .ref a0_row, .ref a0_many, .int v0_hasPolynomial, .int v0_hasLists, .ref a0_can, .ref a0_could, .ref a0_arcRow, .ref a0_order, .ref a0_isOut])), (a0_near, .inl (cI, 12, .inl w0_near))]) (w1 := (wd_Mo_count cI cJ cG cZ)) hP hD [] [0, 1] rfl rfl (by decide) (by decide) hk1 hFc hP1 hD1
        have hP : va_P (dC, dI) vwCl (wd_Mo_greatest cI cJ cG cZ a0 a0_from a0_to a0_near a0_lists a0_colours a0_shades a0_tints a0_attempt a0_taken a0_isApart a0_ways a0_next a0_splits a0_powers a0_row a0_many a0_can a0_could a0_arcRow a0_order a0_isOut v0_thrown v0_nodes v0_arcs v0_takenMany v0_leftBits v0_hasPolynomial v0_hasLists w0_near) H1 := hP.sub [0, 1] rfl
        have hD : va_D A (wd_Mo_greatest cI cJ cG cZ a0 a0_from a0_to a0_near a0_lists a0_colours a0_shades a0_tints a0_attempt a0_taken a0_isApart a0_ways a0_next a0_splits a0_powers a0_row a0_many a0_can a0_could a0_arcRow a0_order a0_isOut v0_thrown v0_nodes v0_arcs v0_takenMany v0_leftBits v0_hasPolynomial v0_hasLists w0_near) := hD.sub [0, 1] (by decide) rfl
        clear hP1 hK1 hD1 hk1 hPc hDc hFc ht hvm hz1
        generalize H1 = H at hP hS ⊢
        obtain ⟨J_155, hJ_155, hm⟩ := gB_x hm
        have jp_155 : ∀ (ls : Array Slot) (H : Heap) (locs : List Loc), J_155 = some ret → lv_has ls 8 [(0, .ref a0), (1, .int p1), (2, .int x2_1), (3, .int x3_2), (4, .int x4_4)] → va_P (dC, dI) vwCl (wd_Mo_greatest cI cJ cG cZ a0 a0_from a0_to a0_near a0_lists a0_colours a0_shades a0_tints a0_attempt a0_taken a0_isApart a0_ways a0_next a0_splits a0_powers a0_row a0_many a0_can a0_could a0_arcRow a0_order a0_isOut v0_thrown v0_nodes v0_arcs v0_takenMany v0_leftBits v0_hasPolynomial v0_hasLists w0_near) H → va_D A (wd_Mo_greatest cI cJ cG cZ a0 a0_from a0_to a0_near a0_lists a0_colours a0_shades a0_tints a0_attempt a0_taken a0_isApart a0_ways a0_next a0_splits a0_powers a0_row a0_many a0_can a0_could a0_arcRow a0_order a0_isOut v0_thrown v0_nodes v0_arcs v0_takenMany v0_leftBits v0_hasPolynomial v0_hasLists w0_near) → va_S A s.heap H locs → W p l e (headSpec us_Mo_greatest rm_Mo_greatest).room s m ([.ref a0, .int p1] : List Value).toArray below meth c H locs 0 0 (MQ below (va_Qi (fun (r : Int32) (_ : Unit) => ret = r) (fun _ t => PoS (dC, dI) (tyL cI cJ cG cZ) (wd_Mo_greatest cI cJ cG cZ a0 a0_from a0_to a0_near a0_lists a0_colours a0_shades a0_tints a0_attempt a0_taken a0_isApart a0_ways a0_next a0_splits a0_powers a0_row a0_many a0_can a0_could a0_arcRow a0_order a0_isOut v0_thrown v0_nodes v0_arcs v0_takenMany v0_leftBits v0_hasPolynomial v0_hasLists w0_near) A t) A) ([.ref a0, .int p1] : List Value).toArray s 0 0 A) (F0 m 155 ls []) := by
          intro ls H locs hm hl hP hD hS
          have hm := jn0 hJ_155 hm
          refine lv_iconst (v := 0) hx hb d_Mo_greatest_155 (by decide) ?_
          exact jp_156 _ ls H locs hm (lv_sub hl [0, 1, 2, 3, 4] rfl) hP hD hS
        clear hJ_155
        refine lv_icmp_ne (tgt := 155) hx hb d_Mo_greatest_137 (by decide) (fun c_27 => ?_) (fun c_27 => ?_)
        · have hm := ite_f c_27 hm
          exact jp_155 ls H locs hm (lv_sub hl [1, 2, 3, 4, 5] rfl) hP hD hS
        · have hm := ite_t c_27 hm
          refine lv_iload_n hx hb d_Mo_greatest_140 rfl (lv_at hl 4 rfl) ?_
          refine lv_iload hx hb d_Mo_greatest_141 (lv_at hl 0 rfl) ?_
          refine lv_iand hx hb d_Mo_greatest_143 ?_
          refine lv_iload hx hb d_Mo_greatest_144 (lv_at hl 0 rfl) ?_
          refine lv_ineg hx hb d_Mo_greatest_146 ?_
          refine lv_iand hx hb d_Mo_greatest_147 ?_
          refine lv_if_eq (tgt := 155) hx hb d_Mo_greatest_148 (by decide) (fun c_28 => ?_) (fun c_28 => ?_)
          · have hm := ite_t c_28 hm
            exact jp_155 ls H locs hm (lv_sub hl [1, 2, 3, 4, 5] rfl) hP hD hS
          · have hm := ite_f c_28 hm
            exact jp_151 ls H locs hm (lv_sub hl [1, 2, 3, 4, 5] rfl) hP hD hS
    · have hm := ite_f c_6 hm
      refine lv_iload_n hx hb d_Mo_greatest_29 rfl (lv_at hl 3 rfl) ?_
      refine lv_iconst (v := 1) hx hb d_Mo_greatest_30 (by decide) ?_
      refine lv_iload hx hb d_Mo_greatest_31 (lv_at hl 5 rfl) ?_
      refine lv_ishl hx hb d_Mo_greatest_33 ?_
      refine lv_iconst (v := (-1)) hx hb d_Mo_greatest_34 (by decide) ?_
      refine lv_ixor hx hb d_Mo_greatest_35 ?_
      refine lv_iand hx hb d_Mo_greatest_36 ?_
      refine lv_topi (fun x6_29 ex6_29 => ?_)
      have hm := gB_at ex6_29 hm
      refine lv_istore (lv' := [(6, .int x6_29), (0, .ref a0), (1, .int p1), (2, .int x2_1), (3, .int x3_2), (4, .int x4_4), (5, .int x5_5)]) hx hb d_Mo_greatest_37 hl (by decide) rfl (fun ls hl => ?_)
      refine lv_iload_n hx hb d_Mo_greatest_39 rfl (lv_at hl 4 rfl) ?_
      refine lv_iload hx hb d_Mo_greatest_40 (lv_at hl 6 rfl) ?_
      refine lv_ishr hx hb d_Mo_greatest_42 ?_
      refine lv_iconst (v := 1) hx hb d_Mo_greatest_43 (by decide) ?_
      refine lv_iand hx hb d_Mo_greatest_44 ?_
      refine lv_iconst (v := 1) hx hb d_Mo_greatest_45 (by decide) ?_
      obtain ⟨J_54, hJ_54, hm⟩ := gB_x hm
      have jp_54 : ∀ (s_30 : Int32) (ls : Array Slot) (H : Heap) (locs : List Loc), J_54 s_30 = some ret → lv_has ls 8 [(0, .ref a0), (1, .int p1), (2, .int x2_1), (3, .int x3_2), (4, .int x4_4), (5, .int x5_5), (6, .int x6_29)] → va_P (dC, dI) vwCl (wd_Mo_greatest cI cJ cG cZ a0 a0_from a0_to a0_near a0_lists a0_colours a0_shades a0_tints a0_attempt a0_taken a0_isApart a0_ways a0_next a0_splits a0_powers a0_row a0_many a0_can a0_could a0_arcRow a0_order a0_isOut v0_thrown v0_nodes v0_arcs v0_takenMany v0_leftBits v0_hasPolynomial v0_hasLists w0_near) H → va_D A (wd_Mo_greatest cI cJ cG cZ a0 a0_from a0_to a0_near a0_lists a0_colours a0_shades a0_tints a0_attempt a0_taken a0_isApart a0_ways a0_next a0_splits a0_powers a0_row a0_many a0_can a0_could a0_arcRow a0_order a0_isOut v0_thrown v0_nodes v0_arcs v0_takenMany v0_leftBits v0_hasPolynomial v0_hasLists w0_near) → va_S A s.heap H locs → W p l e (headSpec us_Mo_greatest rm_Mo_greatest).room s m ([.ref a0, .int p1] : List Value).toArray below meth c H locs 0 0 (MQ below (va_Qi (fun (r : Int32) (_ : Unit) => ret = r) (fun _ t => PoS (dC, dI) (tyL cI cJ cG cZ) (wd_Mo_greatest cI cJ cG cZ a0 a0_from a0_to a0_near a0_lists a0_colours a0_shades a0_tints a0_attempt a0_taken a0_isApart a0_ways a0_next a0_splits a0_powers a0_row a0_many a0_can a0_could a0_arcRow a0_order a0_isOut v0_thrown v0_nodes v0_arcs v0_takenMany v0_leftBits v0_hasPolynomial v0_hasLists w0_near) A t) A) ([.ref a0, .int p1] : List Value).toArray s 0 0 A) (F0 m 54 ls [.int s_30]) := by
        intro s_30 ls H locs hm hl hP hD hS
        have hm := jn1 hJ_54 hm
        refine lv_istore (lv' := [(7, .int s_30), (0, .ref a0), (1, .int p1), (2, .int x2_1), (3, .int x3_2), (4, .int x4_4), (5, .int x5_5), (6, .int x6_29)]) hx hb d_Mo_greatest_54 hl (by decide) rfl (fun ls hl => ?_)
        refine lv_iload hx hb d_Mo_greatest_56 (lv_at hl 5 rfl) ?_
        refine lv_if_eq (tgt := 104) hx hb d_Mo_greatest_58 (by decide) (fun c_31 => ?_) (fun c_31 => ?_)
        · have hm := ite_t c_31 hm
          refine lv_iconst (v := 0) hx hb d_Mo_greatest_104 (by decide) ?_
          refine lv_istore (lv' := [(4, .int 0), (7, .int s_30), (0, .ref a0), (1, .int p1), (2, .int x2_1), (3, .int x3_2), (5, .int x5_5), (6, .int x6_29)]) hx hb d_Mo_greatest_105 hl (by decide) rfl (fun ls hl => ?_)
          obtain ⟨x5_32, ex5_32⟩ : ∃ y : Int32, y = x5_5 + 1 := ⟨_, rfl⟩
          have hm := gB_at ex5_32 hm
          refine lv_iinc (v := x5_32) (lv' := [(5, .int x5_32), (4, .int 0), (7, .int s_30), (0, .ref a0), (1, .int p1), (2, .int x2_1), (3, .int x3_2), (6, .int x6_29)]) hx hb d_Mo_greatest_107 hl (k := 6) rfl (by rw [ex5_32]; rfl) (by decide) rfl (fun ls hl => ?_)
          refine lv_goto (tgt := 20) hx hb d_Mo_greatest_110 (by decide) ?_
          exact ih_20 _ hm _ _ rfl ls H locs (lv_sub hl [3, 4, 5, 6, 1, 0] rfl) hP hD hS
        · have hm := ite_f c_31 hm
          refine lv_iload hx hb d_Mo_greatest_61 (lv_at hl 0 rfl) ?_
          obtain ⟨J_100, hJ_100, hm⟩ := gB_x hm
          have jp_100 : ∀ (ls : Array Slot) (H : Heap) (locs : List Loc), J_100 = some ret → lv_has ls 8 [(0, .ref a0), (1, .int p1), (2, .int x2_1), (3, .int x3_2), (5, .int x5_5)] → va_P (dC, dI) vwCl (wd_Mo_greatest cI cJ cG cZ a0 a0_from a0_to a0_near a0_lists a0_colours a0_shades a0_tints a0_attempt a0_taken a0_isApart a0_ways a0_next a0_splits a0_powers a0_row a0_many a0_can a0_could a0_arcRow a0_order a0_isOut v0_thrown v0_nodes v0_arcs v0_takenMany v0_leftBits v0_hasPolynomial v0_hasLists w0_near) H → va_D A (wd_Mo_greatest cI cJ cG cZ a0 a0_from a0_to a0_near a0_lists a0_colours a0_shades a0_tints a0_attempt a0_taken a0_isApart a0_ways a0_next a0_splits a0_powers a0_row a0_many a0_can a0_could a0_arcRow a0_order a0_isOut v0_thrown v0_nodes v0_arcs v0_takenMany v0_leftBits v0_hasPolynomial v0_hasLists w0_near) → va_S A s.heap H locs → W p l e (headSpec us_Mo_greatest rm_Mo_greatest).room s m ([.ref a0, .int p1] : List Value).toArray below meth c H locs 0 0 (MQ below (va_Qi (fun (r : Int32) (_ : Unit) => ret = r) (fun _ t => PoS (dC, dI) (tyL cI cJ cG cZ) (wd_Mo_greatest cI cJ cG cZ a0 a0_from a0_to a0_near a0_lists a0_colours a0_shades a0_tints a0_attempt a0_taken a0_isApart a0_ways a0_next a0_splits a0_powers a0_row a0_many a0_can a0_could a0_arcRow a0_order a0_isOut v0_thrown v0_nodes v0_arcs v0_takenMany v0_leftBits v0_hasPolynomial v0_hasLists w0_near) A t) A) ([.ref a0, .int p1] : List Value).toArray s 0 0 A) (F0 m 100 ls []) := by
            intro ls H locs hm hl hP hD hS
            have hm := jn0 hJ_100 hm
            refine lv_iconst (v := 1) hx hb d_Mo_greatest_100 (by decide) ?_
            refine lv_goto (tgt := 105) hx hb d_Mo_greatest_101 (by decide) ?_
            refine lv_istore (lv' := [(4, .int 1), (0, .ref a0), (1, .int p1), (2, .int x2_1), (3, .int x3_2), (5, .int x5_5)]) hx hb d_Mo_greatest_105 hl (by decide) rfl (fun ls hl => ?_)
            obtain ⟨x5_33, ex5_33⟩ : ∃ y : Int32, y = x5_5 + 1 := ⟨_, rfl⟩
            have hm := gB_at ex5_33 hm
            refine lv_iinc (v := x5_33) (lv' := [(5, .int x5_33), (4, .int 1), (0, .ref a0), (1, .int p1), (2, .int x2_1), (3, .int x3_2)]) hx hb d_Mo_greatest_107 hl (k := 5) rfl (by rw [ex5_33]; rfl) (by decide) rfl (fun ls hl => ?_)
            refine lv_goto (tgt := 20) hx hb d_Mo_greatest_110 (by decide) ?_
            exact ih_20 _ hm _ _ rfl ls H locs (lv_sub hl [2, 3, 4, 5, 1, 0] rfl) hP hD hS
          clear hJ_100
          refine lv_if_eq (tgt := 100) hx hb d_Mo_greatest_63 (by decide) (fun c_34 => ?_) (fun c_34 => ?_)
          · have hm := ite_t c_34 hm
            exact jp_100 ls H locs hm (lv_sub hl [1, 2, 3, 4, 6] rfl) hP hD hS
          · have hm := ite_f c_34 hm
            refine lv_iload_n hx hb d_Mo_greatest_66 rfl (lv_at hl 2 rfl) ?_
            refine lv_if_eq (tgt := 88) hx hb d_Mo_greatest_67 (by decide) (fun c_35 => ?_) (fun c_35 => ?_)
            · have hm := ite_t c_35 hm
              refine lv_aload_n hx hb d_Mo_greatest_88 rfl (lv_at hl 1 rfl) ?_
              refine va_get (D := (dC, dI)) (ci := 8) (v := .ref a0_near) (C := R_Mo) (T := T_Mo) (N := 28) hx hb htt hin_Mo hown hK hP 0 rfl rfl 5 (by decide) (htt _ kt_774) (fun _ h9 => h9) rfl d_Mo_greatest_89 ?_
              refine lv_iload hx hb d_Mo_greatest_92 (lv_at hl 6 rfl) ?_
              obtain ⟨hi_36, hm⟩ := gC_e hm
              refine va_iald hx hb hK hP 1 0 rfl rfl (inb_vp hi_36) d_Mo_greatest_94 ?_
              refine lv_iload_n hx hb d_Mo_greatest_95 rfl (lv_at hl 4 rfl) ?_
              refine lv_iand hx hb d_Mo_greatest_96 ?_
              refine lv_if_ne (tgt := 104) hx hb d_Mo_greatest_97 (by decide) (fun c_37 => ?_) (fun c_37 => ?_)
              · have hm := ite_f c_37 hm
                refine lv_iconst (v := 0) hx hb d_Mo_greatest_104 (by decide) ?_
                refine lv_istore (lv' := [(4, .int 0), (7, .int s_30), (0, .ref a0), (1, .int p1), (2, .int x2_1), (3, .int x3_2), (5, .int x5_5), (6, .int x6_29)]) hx hb d_Mo_greatest_105 hl (by decide) rfl (fun ls hl => ?_)
                obtain ⟨x5_38, ex5_38⟩ : ∃ y : Int32, y = x5_5 + 1 := ⟨_, rfl⟩
                have hm := gB_at ex5_38 hm
                refine lv_iinc (v := x5_38) (lv' := [(5, .int x5_38), (4, .int 0), (7, .int s_30), (0, .ref a0), (1, .int p1), (2, .int x2_1), (3, .int x3_2), (6, .int x6_29)]) hx hb d_Mo_greatest_107 hl (k := 6) rfl (by rw [ex5_38]; rfl) (by decide) rfl (fun ls hl => ?_)
                refine lv_goto (tgt := 20) hx hb d_Mo_greatest_110 (by decide) ?_
                exact ih_20 _ hm _ _ rfl ls H locs (lv_sub hl [3, 4, 5, 6, 1, 0] rfl) hP hD hS
              · have hm := ite_t c_37 hm
                exact jp_100 ls H locs hm (lv_sub hl [1, 2, 3, 4, 6] rfl) hP hD hS
            · have hm := ite_f c_35 hm
              refine lv_aload_n hx hb d_Mo_greatest_70 rfl (lv_at hl 1 rfl) ?_
              refine va_get (D := (dC, dI)) (ci := 8) (v := .ref a0_near) (C := R_Mo) (T := T_Mo) (N := 28) hx hb htt hin_Mo hown hK hP 0 rfl rfl 5 (by decide) (htt _ kt_774) (fun _ h9 => h9) rfl d_Mo_greatest_71 ?_
              refine lv_iload hx hb d_Mo_greatest_74 (lv_at hl 6 rfl) ?_
              obtain ⟨hi_39, hm⟩ := gC_e hm
              refine va_iald hx hb hK hP 1 0 rfl rfl (inb_vp hi_39) d_Mo_greatest_76 ?_
              refine lv_iload hx hb d_Mo_greatest_77 (lv_at hl 7 rfl) ?_
              refine lv_iand hx hb d_Mo_greatest_79 ?_
              refine lv_iload hx hb d_Mo_greatest_80 (lv_at hl 7 rfl) ?_
              refine lv_icmp_ne (tgt := 104) hx hb d_Mo_greatest_82 (by decide) (fun c_40 => ?_) (fun c_40 => ?_)
              · have hm := ite_f c_40 hm
                refine lv_iconst (v := 0) hx hb d_Mo_greatest_104 (by decide) ?_
                refine lv_istore (lv' := [(4, .int 0), (7, .int s_30), (0, .ref a0), (1, .int p1), (2, .int x2_1), (3, .int x3_2), (5, .int x5_5), (6, .int x6_29)]) hx hb d_Mo_greatest_105 hl (by decide) rfl (fun ls hl => ?_)
                obtain ⟨x5_41, ex5_41⟩ : ∃ y : Int32, y = x5_5 + 1 := ⟨_, rfl⟩
                have hm := gB_at ex5_41 hm
                refine lv_iinc (v := x5_41) (lv' := [(5, .int x5_41), (4, .int 0), (7, .int s_30), (0, .ref a0), (1, .int p1), (2, .int x2_1), (3, .int x3_2), (6, .int x6_29)]) hx hb d_Mo_greatest_107 hl (k := 6) rfl (by rw [ex5_41]; rfl) (by decide) rfl (fun ls hl => ?_)
                refine lv_goto (tgt := 20) hx hb d_Mo_greatest_110 (by decide) ?_
                exact ih_20 _ hm _ _ rfl ls H locs (lv_sub hl [3, 4, 5, 6, 1, 0] rfl) hP hD hS
              · have hm := ite_t c_40 hm
                refine lv_goto (tgt := 100) hx hb d_Mo_greatest_85 (by decide) ?_
                exact jp_100 ls H locs hm (lv_sub hl [1, 2, 3, 4, 6] rfl) hP hD hS
      clear hJ_54
      refine lv_icmp_ne (tgt := 53) hx hb d_Mo_greatest_46 (by decide) (fun c_42 => ?_) (fun c_42 => ?_)
      · have hm := ite_f c_42 hm
        refine lv_iconst (v := 0) hx hb d_Mo_greatest_53 (by decide) ?_
        exact jp_54 _ ls H locs hm (lv_sub hl [1, 2, 3, 4, 5, 6, 0] rfl) hP hD hS
      · have hm := ite_t c_42 hm
        refine lv_iconst (v := 1) hx hb d_Mo_greatest_49 (by decide) ?_
        refine lv_goto (tgt := 54) hx hb d_Mo_greatest_50 (by decide) ?_
        exact jp_54 _ ls H locs hm (lv_sub hl [1, 2, 3, 4, 5, 6, 0] rfl) hP hD hS
theorem d_Mo_clique_0 : decode prog_10_method_33_code 0 = .ok (.aload_n 0, 1) := by decide +kernel
theorem d_Mo_clique_1 : decode prog_10_method_33_code 1 = .ok (.iconst 0, 1) := by decide +kernel
theorem d_Mo_clique_2 : decode prog_10_method_33_code 2 = .ok (.putfield 79, 3) := by decide +kernel
theorem d_Mo_clique_5 : decode prog_10_method_33_code 5 = .ok (.aload_n 0, 1) := by decide +kernel
theorem d_Mo_clique_6 : decode prog_10_method_33_code 6 = .ok (.iconst 1, 1) := by decide +kernel
theorem d_Mo_clique_7 : decode prog_10_method_33_code 7 = .ok (.invokevirtual 149, 3) := by decide +kernel
theorem d_Mo_clique_10 : decode prog_10_method_33_code 10 = .ok (.ireturn, 1) := by decide +kernel
abbrev wd_Mo_clique (cI cJ cG cZ : ClassId) (a0 a0_from a0_to a0_near a0_lists a0_colours a0_shades a0_tints a0_attempt a0_taken a0_isApart a0_ways a0_next a0_splits a0_powers a0_row a0_many a0_can a0_could a0_arcRow a0_order a0_isOut : Nat) (v0_thrown : Int32) (v0_nodes : Int32) (v0_arcs : Int32) (v0_takenMany : Int32) (v0_leftBits : Int32) (v0_hasPolynomial : Int32) (v0_hasLists : Int32) (w0_near : Nat → Int32) : va_W := [(a0, .inr (8, [.int v0_thrown, .int v0_nodes, .int v0_arcs, .ref a0_from, .ref a0_to, .ref a0_near, .ref a0_lists, .ref a0_colours, .ref a0_shades, .ref a0_tints, .ref a0_attempt, .int v0_takenMany, .ref a0_taken, .int v0_leftBits, .ref a0_isApart, .ref a0_ways, .ref a0_next, .ref a0_splits, .ref a0_powers, .ref a0_row, .ref a0_many, .int v0_hasPolynomial, .int v0_hasLists, .ref a0_can, .ref a0_could, .ref a0_arcRow, .ref a0_order, .ref a0_isOut])), (a0_near, .inl (cI, 12, .inl w0_near))]
abbrev us_Mo_clique : List Cond := .code y_Mo_clique prog_10_method_33_code 1 (some .int) :: gtbl
abbrev rm_Mo_clique : Room := { frames := 2, cells := 0, slots := 0, locals := 49 }
def m_Mo_clique (F : Nat) (v0_thrown : Int32) (v0_nodes : Int32) (v0_arcs : Int32) (v0_takenMany : Int32) (v0_leftBits : Int32) (v0_hasPolynomial : Int32) (v0_hasLists : Int32) (w0_near : Nat → Int32) : Option (Int32 × Int32) :=
  gM (m_Mo_greatest F 0 v0_nodes v0_arcs v0_takenMany v0_leftBits v0_hasPolynomial v0_hasLists w0_near (1 : Int32)) (fun q_1 =>
  some (q_1, 0))
set_option maxHeartbeats 4000000 in
set_option maxRecDepth 100000 in
theorem c_Mo_clique (l : Launch) (dC : Nat → ClassId) (dI : Nat → Nat → Nat) (cI cJ cG cZ : ClassId) (a0 a0_from a0_to a0_near a0_lists a0_colours a0_shades a0_tints a0_attempt a0_taken a0_isApart a0_ways a0_next a0_splits a0_powers a0_row a0_many a0_can a0_could a0_arcRow a0_order a0_isOut : Nat) (sz : Nat) (F : Nat) (v0_thrown : Int32) (v0_nodes : Int32) (v0_arcs : Int32) (v0_takenMany : Int32) (v0_leftBits : Int32) (v0_hasPolynomial : Int32) (v0_hasLists : Int32) (w0_near : Nat → Int32) (ret : Int32) (o_v0_thrown : Int32) (hm : m_Mo_clique F v0_thrown v0_nodes v0_arcs v0_takenMany v0_leftBits v0_hasPolynomial v0_hasLists w0_near = some (ret, o_v0_thrown)) : Met l y_Mo_clique us_Mo_clique rm_Mo_clique (PcS (dC, dI) (tyL cI cJ cG cZ) [.ref a0] sz (wd_Mo_clique cI cJ cG cZ a0 a0_from a0_to a0_near a0_lists a0_colours a0_shades a0_tints a0_attempt a0_taken a0_isApart a0_ways a0_next a0_splits a0_powers a0_row a0_many a0_can a0_could a0_arcRow a0_order a0_isOut v0_thrown v0_nodes v0_arcs v0_takenMany v0_leftBits v0_hasPolynomial v0_hasLists w0_near)) (va_Qi (fun (r : Int32) (_ : Unit) => ret = r) (fun _ t => PoS (dC, dI) (tyL cI cJ cG cZ) (wd_Mo_clique cI cJ cG cZ a0 a0_from a0_to a0_near a0_lists a0_colours a0_shades a0_tints a0_attempt a0_taken a0_isApart a0_ways a0_next a0_splits a0_powers a0_row a0_many a0_can a0_could a0_arcRow a0_order a0_isOut o_v0_thrown v0_nodes v0_arcs v0_takenMany v0_leftBits v0_hasPolynomial v0_hasLists w0_near) (va_A (wd_Mo_clique cI cJ cG cZ a0 a0_from a0_to a0_near a0_lists a0_colours a0_shades a0_tints a0_attempt a0_taken a0_isApart a0_ways a0_next a0_splits a0_powers a0_row a0_many a0_can a0_could a0_arcRow a0_order a0_isOut v0_thrown v0_nodes v0_arcs v0_takenMany v0_leftBits v0_hasPolynomial v0_hasLists w0_near) sz) t) (va_A (wd_Mo_clique cI cJ cG cZ a0 a0_from a0_to a0_near a0_lists a0_colours a0_shades a0_tints a0_attempt a0_taken a0_isApart a0_ways a0_next a0_splits a0_powers a0_row a0_many a0_can a0_could a0_arcRow a0_order a0_isOut v0_thrown v0_nodes v0_arcs v0_takenMany v0_leftBits v0_hasPolynomial v0_hasLists w0_near) sz)) 0 0 (va_A (wd_Mo_clique cI cJ cG cZ a0 a0_from a0_to a0_near a0_lists a0_colours a0_shades a0_tints a0_attempt a0_taken a0_isApart a0_ways a0_next a0_splits a0_powers a0_row a0_many a0_can a0_could a0_arcRow a0_order a0_isOut v0_thrown v0_nodes v0_arcs v0_takenMany v0_leftBits v0_hasPolynomial v0_hasLists w0_near) sz) := by
  refine Met.ofW (cc := prog_10_method_33_code) (maxL := 1) (ret := (some .int)) (by decide) rfl ?_
  intro p e s m args below meth c s₁ B hml hv
  obtain ⟨rfl, hsz, hP, hK, hD0, hNw⟩ := hv
  have hx := B.exec
  have hb := B.bytes
  have hr := B.returns
  have htt : ∀ w ∈ gtbl, w.before _ s = true := fun w h => atoms_spec (ws := us_Mo_clique) B.pre w (List.mem_cons_of_mem _ h)
  have hown : s.vm.findClass R_Mo = some m.cls := findClass_of_methodNamed B.named
  have hlocks := B.notSynchronized
  subst hsz
  have hD := hD0.self (sz := s.heap.size)
  generalize hAe : va_A (wd_Mo_clique cI cJ cG cZ a0 a0_from a0_to a0_near a0_lists a0_colours a0_shades a0_tints a0_attempt a0_taken a0_isApart a0_ways a0_next a0_splits a0_powers a0_row a0_many a0_can a0_could a0_arcRow a0_order a0_isOut v0_thrown v0_nodes v0_arcs v0_takenMany v0_leftBits v0_hasPolynomial v0_hasLists w0_near) s.heap.size = A at hD ⊢
  have hA : ∀ q : Nat, s.heap.size ≤ q → A q := fun q h => by rw [← hAe]; exact Or.inr h
  clear hAe hD0
  have hS : va_S A s.heap s.heap [] := va_S.rf
  have hl := lv_entry ([.ref a0]) (n := 1) (Nat.le_of_ble_eq_true rfl)
  rw [lg_entry_eq]
  generalize (lg_sl ([.ref a0]) ++ List.replicate (1 - (lg_sl ([.ref a0])).length) Slot.unset).toArray = ls at hl ⊢
  have hl : lv_has ls 1 [(0, .ref a0)] := hl
  generalize hH : s.heap = H at hP ⊢
  have hS : va_S A s.heap H [] := hH ▸ hS
  generalize hLo : ([] : List Loc) = locs at hS ⊢
  clear hH hLo
  unfold m_Mo_clique at hm
  refine lv_aload_n hx hb d_Mo_clique_0 rfl (lv_at hl 0 rfl) ?_
  refine lv_iconst (v := 0) hx hb d_Mo_clique_1 (by decide) ?_
  refine va_put (D := (dC, dI)) (ci := 8) (v := .int 0) (ty := .int) (C := R_Mo) (T := T_Mo) (N := 28) hx hb htt hin_Mo ty_Mo tyok_Mo nm_Mo hown hK hP hD hS 0 rfl rfl 0 (by decide) (htt _ kt_769) (fun _ h9 => h9) rfl (by decide +kernel) rfl rfl (Nat.le_of_ble_eq_true rfl) d_Mo_clique_2 (fun H locs hP hD hS => ?_)
  have hP : va_P (dC, dI) vwCl (wd_Mo_clique cI cJ cG cZ a0 a0_from a0_to a0_near a0_lists a0_colours a0_shades a0_tints a0_attempt a0_taken a0_isApart a0_ways a0_next a0_splits a0_powers a0_row a0_many a0_can a0_could a0_arcRow a0_order a0_isOut 0 v0_nodes v0_arcs v0_takenMany v0_leftBits v0_hasPolynomial v0_hasLists w0_near) H := hP
  have hD : va_D A (wd_Mo_clique cI cJ cG cZ a0 a0_from a0_to a0_near a0_lists a0_colours a0_shades a0_tints a0_attempt a0_taken a0_isApart a0_ways a0_next a0_splits a0_powers a0_row a0_many a0_can a0_could a0_arcRow a0_order a0_isOut 0 v0_nodes v0_arcs v0_takenMany v0_leftBits v0_hasPolynomial v0_hasLists w0_near) := hD
  refine lv_aload_n hx hb d_Mo_clique_5 rfl (lv_at hl 0 rfl) ?_
  refine lv_iconst (v := 1) hx hb d_Mo_clique_6 (by decide) ?_
  obtain ⟨q_1, hc_2, hm⟩ := gM_e hm
  have hPc : va_P (dC, dI) vwCl (wd_Mo_greatest cI cJ cG cZ a0 a0_from a0_to a0_near a0_lists a0_colours a0_shades a0_tints a0_attempt a0_taken a0_isApart a0_ways a0_next a0_splits a0_powers a0_row a0_many a0_can a0_could a0_arcRow a0_order a0_isOut 0 v0_nodes v0_arcs v0_takenMany v0_leftBits v0_hasPolynomial v0_hasLists w0_near) H := hP.sub [0, 1] rfl
  have hDc : va_D A (wd_Mo_greatest cI cJ cG cZ a0 a0_from a0_to a0_near a0_lists a0_colours a0_shades a0_tints a0_attempt a0_taken a0_isApart a0_ways a0_next a0_splits a0_powers a0_row a0_many a0_can a0_could a0_arcRow a0_order a0_isOut 0 v0_nodes v0_arcs v0_takenMany v0_leftBits v0_hasPolynomial v0_hasLists w0_near) := hD.sub [0, 1] (by decide) rfl
  have hFc : ∀ q, va_A (wd_Mo_greatest cI cJ cG cZ a0 a0_from a0_to a0_near a0_lists a0_colours a0_shades a0_tints a0_attempt a0_taken a0_isApart a0_ways a0_next a0_splits a0_powers a0_row a0_many a0_can a0_could a0_arcRow a0_order a0_isOut 0 v0_nodes v0_arcs v0_takenMany v0_leftBits v0_hasPolynomial v0_hasLists w0_near) H.size q → A q := va_free hD hS hA [0, 1] rfl
  refine va_calli (va_runV (As := [.int 1]) (rest := []) ⟨hx, hb, hml, hown, htt⟩ (c_Mo_greatest l dC dI cI cJ cG cZ a0 a0_from a0_to a0_near a0_lists a0_colours a0_shades a0_tints a0_attempt a0_taken a0_isApart a0_ways a0_next a0_splits a0_powers a0_row a0_many a0_can a0_could a0_arcRow a0_order a0_isOut H.size F 0 v0_nodes v0_arcs v0_takenMany v0_leftBits v0_hasPolynomial v0_hasLists w0_near (1 : Int32) q_1 hc_2) (cwV 1 htt (gdV kt_968 kt_970 kp_55 kt_10 kt_971) rfl rfl rfl (by decide +kernel) ⟨(Nat.le_of_ble_eq_true rfl), (Nat.le_of_ble_eq_true rfl)⟩) ⟨PcS_blind, va_recv hK hPc (ci := 8) (q0 := 0) rfl rfl, PcS_in hPc hK hDc hNw⟩ rfl rfl hl.1 rfl (lv_room (Nat.le_of_ble_eq_true rfl)) d_Mo_clique_7 ⟨Nat.zero_le _, Nat.zero_le _⟩) hS (fun q _ h => hFc q h) hFc (fun r_3 u t H1 locs ht hvm hw hB hz1 hk1 hS => ?_)
  obtain ⟨hP1, hK1, hD1⟩ := hB
  rw [ht] at hP1
  subst hw
  obtain ⟨hP, hD⟩ := va_join (wr := []) (w1 := (wd_Mo_greatest cI cJ cG cZ a0 a0_from a0_to a0_near a0_lists a0_colours a0_shades a0_tints a0_attempt a0_taken a0_isApart a0_ways a0_next a0_splits a0_powers a0_row a0_many a0_can a0_could a0_arcRow a0_order a0_isOut 0 v0_nodes v0_arcs v0_takenMany v0_leftBits v0_hasPolynomial v0_hasLists w0_near)) hP hD [0, 1] [] rfl rfl (by decide) (by decide) hk1 hFc hP1 hD1
  have hP : va_P (dC, dI) vwCl (wd_Mo_clique cI cJ cG cZ a0 a0_from a0_to a0_near a0_lists a0_colours a0_shades a0_tints a0_attempt a0_taken a0_isApart a0_ways a0_next a0_splits a0_powers a0_row a0_many a0_can a0_could a0_arcRow a0_order a0_isOut 0 v0_nodes v0_arcs v0_takenMany v0_leftBits v0_hasPolynomial v0_hasLists w0_near) H1 := hP.sub [0, 1] rfl
  have hD : va_D A (wd_Mo_clique cI cJ cG cZ a0 a0_from a0_to a0_near a0_lists a0_colours a0_shades a0_tints a0_attempt a0_taken a0_isApart a0_ways a0_next a0_splits a0_powers a0_row a0_many a0_can a0_could a0_arcRow a0_order a0_isOut 0 v0_nodes v0_arcs v0_takenMany v0_leftBits v0_hasPolynomial v0_hasLists w0_near) := hD.sub [0, 1] (by decide) rfl
  clear hP1 hK1 hD1 hk1 hPc hDc hFc ht hvm hz1
  generalize H1 = H at hP hS ⊢
  cases hm
  exact W.iret hx hb hr (fun t ht hW => ⟨⟨_, (), rfl, rfl, by rw [ht]; exact hP, va_K.moved hW.alike hK, hD⟩, hS.F ht⟩) hS.2.2 d_Mo_clique_10
theorem d_Mo_apart_0 : decode prog_10_method_34_code 0 = .ok (.aload_n 0, 1) := by decide +kernel
theorem d_Mo_apart_1 : decode prog_10_method_34_code 1 = .ok (.iconst 0, 1) := by decide +kernel
theorem d_Mo_apart_2 : decode prog_10_method_34_code 2 = .ok (.putfield 79, 3) := by decide +kernel
theorem d_Mo_apart_5 : decode prog_10_method_34_code 5 = .ok (.aload_n 0, 1) := by decide +kernel
theorem d_Mo_apart_6 : decode prog_10_method_34_code 6 = .ok (.iconst 0, 1) := by decide +kernel
theorem d_Mo_apart_7 : decode prog_10_method_34_code 7 = .ok (.invokevirtual 149, 3) := by decide +kernel
theorem d_Mo_apart_10 : decode prog_10_method_34_code 10 = .ok (.ireturn, 1) := by decide +kernel
abbrev wd_Mo_apart (cI cJ cG cZ : ClassId) (a0 a0_from a0_to a0_near a0_lists a0_colours a0_shades a0_tints a0_attempt a0_taken a0_isApart a0_ways a0_next a0_splits a0_powers a0_row a0_many a0_can a0_could a0_arcRow a0_order a0_isOut : Nat) (v0_thrown : Int32) (v0_nodes : Int32) (v0_arcs : Int32) (v0_takenMany : Int32) (v0_leftBits : Int32) (v0_hasPolynomial : Int32) (v0_hasLists : Int32) (w0_near : Nat → Int32) : va_W := [(a0, .inr (8, [.int v0_thrown, .int v0_nodes, .int v0_arcs, .ref a0_from, .ref a0_to, .ref a0_near, .ref a0_lists, .ref a0_colours, .ref a0_shades, .ref a0_tints, .ref a0_attempt, .int v0_takenMany, .ref a0_taken, .int v0_leftBits, .ref a0_isApart, .ref a0_ways, .ref a0_next, .ref a0_splits, .ref a0_powers, .ref a0_row, .ref a0_many, .int v0_hasPolynomial, .int v0_hasLists, .ref a0_can, .ref a0_could, .ref a0_arcRow, .ref a0_order, .ref a0_isOut])), (a0_near, .inl (cI, 12, .inl w0_near))]
abbrev us_Mo_apart : List Cond := .code y_Mo_apart prog_10_method_34_code 1 (some .int) :: gtbl
abbrev rm_Mo_apart : Room := { frames := 2, cells := 0, slots := 0, locals := 49 }
def m_Mo_apart (F : Nat) (v0_thrown : Int32) (v0_nodes : Int32) (v0_arcs : Int32) (v0_takenMany : Int32) (v0_leftBits : Int32) (v0_hasPolynomial : Int32) (v0_hasLists : Int32) (w0_near : Nat → Int32) : Option (Int32 × Int32) :=
  gM (m_Mo_greatest F 0 v0_nodes v0_arcs v0_takenMany v0_leftBits v0_hasPolynomial v0_hasLists w0_near (0 : Int32)) (fun q_1 =>
  some (q_1, 0))
set_option maxHeartbeats 4000000 in
set_option maxRecDepth 100000 in
theorem c_Mo_apart (l : Launch) (dC : Nat → ClassId) (dI : Nat → Nat → Nat) (cI cJ cG cZ : ClassId) (a0 a0_from a0_to a0_near a0_lists a0_colours a0_shades a0_tints a0_attempt a0_taken a0_isApart a0_ways a0_next a0_splits a0_powers a0_row a0_many a0_can a0_could a0_arcRow a0_order a0_isOut : Nat) (sz : Nat) (F : Nat) (v0_thrown : Int32) (v0_nodes : Int32) (v0_arcs : Int32) (v0_takenMany : Int32) (v0_leftBits : Int32) (v0_hasPolynomial : Int32) (v0_hasLists : Int32) (w0_near : Nat → Int32) (ret : Int32) (o_v0_thrown : Int32) (hm : m_Mo_apart F v0_thrown v0_nodes v0_arcs v0_takenMany v0_leftBits v0_hasPolynomial v0_hasLists w0_near = some (ret, o_v0_thrown)) : Met l y_Mo_apart us_Mo_apart rm_Mo_apart (PcS (dC, dI) (tyL cI cJ cG cZ) [.ref a0] sz (wd_Mo_apart cI cJ cG cZ a0 a0_from a0_to a0_near a0_lists a0_colours a0_shades a0_tints a0_attempt a0_taken a0_isApart a0_ways a0_next a0_splits a0_powers a0_row a0_many a0_can a0_could a0_arcRow a0_order a0_isOut v0_thrown v0_nodes v0_arcs v0_takenMany v0_leftBits v0_hasPolynomial v0_hasLists w0_near)) (va_Qi (fun (r : Int32) (_ : Unit) => ret = r) (fun _ t => PoS (dC, dI) (tyL cI cJ cG cZ) (wd_Mo_apart cI cJ cG cZ a0 a0_from a0_to a0_near a0_lists a0_colours a0_shades a0_tints a0_attempt a0_taken a0_isApart a0_ways a0_next a0_splits a0_powers a0_row a0_many a0_can a0_could a0_arcRow a0_order a0_isOut o_v0_thrown v0_nodes v0_arcs v0_takenMany v0_leftBits v0_hasPolynomial v0_hasLists w0_near) (va_A (wd_Mo_apart cI cJ cG cZ a0 a0_from a0_to a0_near a0_lists a0_colours a0_shades a0_tints a0_attempt a0_taken a0_isApart a0_ways a0_next a0_splits a0_powers a0_row a0_many a0_can a0_could a0_arcRow a0_order a0_isOut v0_thrown v0_nodes v0_arcs v0_takenMany v0_leftBits v0_hasPolynomial v0_hasLists w0_near) sz) t) (va_A (wd_Mo_apart cI cJ cG cZ a0 a0_from a0_to a0_near a0_lists a0_colours a0_shades a0_tints a0_attempt a0_taken a0_isApart a0_ways a0_next a0_splits a0_powers a0_row a0_many a0_can a0_could a0_arcRow a0_order a0_isOut v0_thrown v0_nodes v0_arcs v0_takenMany v0_leftBits v0_hasPolynomial v0_hasLists w0_near) sz)) 0 0 (va_A (wd_Mo_apart cI cJ cG cZ a0 a0_from a0_to a0_near a0_lists a0_colours a0_shades a0_tints a0_attempt a0_taken a0_isApart a0_ways a0_next a0_splits a0_powers a0_row a0_many a0_can a0_could a0_arcRow a0_order a0_isOut v0_thrown v0_nodes v0_arcs v0_takenMany v0_leftBits v0_hasPolynomial v0_hasLists w0_near) sz) := by
  refine Met.ofW (cc := prog_10_method_34_code) (maxL := 1) (ret := (some .int)) (by decide) rfl ?_
  intro p e s m args below meth c s₁ B hml hv
  obtain ⟨rfl, hsz, hP, hK, hD0, hNw⟩ := hv
  have hx := B.exec
  have hb := B.bytes
  have hr := B.returns
  have htt : ∀ w ∈ gtbl, w.before _ s = true := fun w h => atoms_spec (ws := us_Mo_apart) B.pre w (List.mem_cons_of_mem _ h)
  have hown : s.vm.findClass R_Mo = some m.cls := findClass_of_methodNamed B.named
  have hlocks := B.notSynchronized
  subst hsz
  have hD := hD0.self (sz := s.heap.size)
  generalize hAe : va_A (wd_Mo_apart cI cJ cG cZ a0 a0_from a0_to a0_near a0_lists a0_colours a0_shades a0_tints a0_attempt a0_taken a0_isApart a0_ways a0_next a0_splits a0_powers a0_row a0_many a0_can a0_could a0_arcRow a0_order a0_isOut v0_thrown v0_nodes v0_arcs v0_takenMany v0_leftBits v0_hasPolynomial v0_hasLists w0_near) s.heap.size = A at hD ⊢
  have hA : ∀ q : Nat, s.heap.size ≤ q → A q := fun q h => by rw [← hAe]; exact Or.inr h
  clear hAe hD0
  have hS : va_S A s.heap s.heap [] := va_S.rf
  have hl := lv_entry ([.ref a0]) (n := 1) (Nat.le_of_ble_eq_true rfl)
  rw [lg_entry_eq]
  generalize (lg_sl ([.ref a0]) ++ List.replicate (1 - (lg_sl ([.ref a0])).length) Slot.unset).toArray = ls at hl ⊢
  have hl : lv_has ls 1 [(0, .ref a0)] := hl
  generalize hH : s.heap = H at hP ⊢
  have hS : va_S A s.heap H [] := hH ▸ hS
  generalize hLo : ([] : List Loc) = locs at hS ⊢
  clear hH hLo
  unfold m_Mo_apart at hm
  refine lv_aload_n hx hb d_Mo_apart_0 rfl (lv_at hl 0 rfl) ?_
  refine lv_iconst (v := 0) hx hb d_Mo_apart_1 (by decide) ?_
  refine va_put (D := (dC, dI)) (ci := 8) (v := .int 0) (ty := .int) (C := R_Mo) (T := T_Mo) (N := 28) hx hb htt hin_Mo ty_Mo tyok_Mo nm_Mo hown hK hP hD hS 0 rfl rfl 0 (by decide) (htt _ kt_769) (fun _ h9 => h9) rfl (by decide +kernel) rfl rfl (Nat.le_of_ble_eq_true rfl) d_Mo_apart_2 (fun H locs hP hD hS => ?_)
  have hP : va_P (dC, dI) vwCl (wd_Mo_apart cI cJ cG cZ a0 a0_from a0_to a0_near a0_lists a0_colours a0_shades a0_tints a0_attempt a0_taken a0_isApart a0_ways a0_next a0_splits a0_powers a0_row a0_many a0_can a0_could a0_arcRow a0_order a0_isOut 0 v0_nodes v0_arcs v0_takenMany v0_leftBits v0_hasPolynomial v0_hasLists w0_near) H := hP
  have hD : va_D A (wd_Mo_apart cI cJ cG cZ a0 a0_from a0_to a0_near a0_lists a0_colours a0_shades a0_tints a0_attempt a0_taken a0_isApart a0_ways a0_next a0_splits a0_powers a0_row a0_many a0_can a0_could a0_arcRow a0_order a0_isOut 0 v0_nodes v0_arcs v0_takenMany v0_leftBits v0_hasPolynomial v0_hasLists w0_near) := hD
  refine lv_aload_n hx hb d_Mo_apart_5 rfl (lv_at hl 0 rfl) ?_
  refine lv_iconst (v := 0) hx hb d_Mo_apart_6 (by decide) ?_
  obtain ⟨q_1, hc_2, hm⟩ := gM_e hm
  have hPc : va_P (dC, dI) vwCl (wd_Mo_greatest cI cJ cG cZ a0 a0_from a0_to a0_near a0_lists a0_colours a0_shades a0_tints a0_attempt a0_taken a0_isApart a0_ways a0_next a0_splits a0_powers a0_row a0_many a0_can a0_could a0_arcRow a0_order a0_isOut 0 v0_nodes v0_arcs v0_takenMany v0_leftBits v0_hasPolynomial v0_hasLists w0_near) H := hP.sub [0, 1] rfl
  have hDc : va_D A (wd_Mo_greatest cI cJ cG cZ a0 a0_from a0_to a0_near a0_lists a0_colours a0_shades a0_tints a0_attempt a0_taken a0_isApart a0_ways a0_next a0_splits a0_powers a0_row a0_many a0_can a0_could a0_arcRow a0_order a0_isOut 0 v0_nodes v0_arcs v0_takenMany v0_leftBits v0_hasPolynomial v0_hasLists w0_near) := hD.sub [0, 1] (by decide) rfl
  have hFc : ∀ q, va_A (wd_Mo_greatest cI cJ cG cZ a0 a0_from a0_to a0_near a0_lists a0_colours a0_shades a0_tints a0_attempt a0_taken a0_isApart a0_ways a0_next a0_splits a0_powers a0_row a0_many a0_can a0_could a0_arcRow a0_order a0_isOut 0 v0_nodes v0_arcs v0_takenMany v0_leftBits v0_hasPolynomial v0_hasLists w0_near) H.size q → A q := va_free hD hS hA [0, 1] rfl
  refine va_calli (va_runV (As := [.int 0]) (rest := []) ⟨hx, hb, hml, hown, htt⟩ (c_Mo_greatest l dC dI cI cJ cG cZ a0 a0_from a0_to a0_near a0_lists a0_colours a0_shades a0_tints a0_attempt a0_taken a0_isApart a0_ways a0_next a0_splits a0_powers a0_row a0_many a0_can a0_could a0_arcRow a0_order a0_isOut H.size F 0 v0_nodes v0_arcs v0_takenMany v0_leftBits v0_hasPolynomial v0_hasLists w0_near (0 : Int32) q_1 hc_2) (cwV 1 htt (gdV kt_968 kt_970 kp_55 kt_10 kt_971) rfl rfl rfl (by decide +kernel) ⟨(Nat.le_of_ble_eq_true rfl), (Nat.le_of_ble_eq_true rfl)⟩) ⟨PcS_blind, va_recv hK hPc (ci := 8) (q0 := 0) rfl rfl, PcS_in hPc hK hDc hNw⟩ rfl rfl hl.1 rfl (lv_room (Nat.le_of_ble_eq_true rfl)) d_Mo_apart_7 ⟨Nat.zero_le _, Nat.zero_le _⟩) hS (fun q _ h => hFc q h) hFc (fun r_3 u t H1 locs ht hvm hw hB hz1 hk1 hS => ?_)
  obtain ⟨hP1, hK1, hD1⟩ := hB
  rw [ht] at hP1
  subst hw
  obtain ⟨hP, hD⟩ := va_join (wr := []) (w1 := (wd_Mo_greatest cI cJ cG cZ a0 a0_from a0_to a0_near a0_lists a0_colours a0_shades a0_tints a0_attempt a0_taken a0_isApart a0_ways a0_next a0_splits a0_powers a0_row a0_many a0_can a0_could a0_arcRow a0_order a0_isOut 0 v0_nodes v0_arcs v0_takenMany v0_leftBits v0_hasPolynomial v0_hasLists w0_near)) hP hD [0, 1] [] rfl rfl (by decide) (by decide) hk1 hFc hP1 hD1
  have hP : va_P (dC, dI) vwCl (wd_Mo_apart cI cJ cG cZ a0 a0_from a0_to a0_near a0_lists a0_colours a0_shades a0_tints a0_attempt a0_taken a0_isApart a0_ways a0_next a0_splits a0_powers a0_row a0_many a0_can a0_could a0_arcRow a0_order a0_isOut 0 v0_nodes v0_arcs v0_takenMany v0_leftBits v0_hasPolynomial v0_hasLists w0_near) H1 := hP.sub [0, 1] rfl
  have hD : va_D A (wd_Mo_apart cI cJ cG cZ a0 a0_from a0_to a0_near a0_lists a0_colours a0_shades a0_tints a0_attempt a0_taken a0_isApart a0_ways a0_next a0_splits a0_powers a0_row a0_many a0_can a0_could a0_arcRow a0_order a0_isOut 0 v0_nodes v0_arcs v0_takenMany v0_leftBits v0_hasPolynomial v0_hasLists w0_near) := hD.sub [0, 1] (by decide) rfl
  clear hP1 hK1 hD1 hk1 hPc hDc hFc ht hvm hz1
  generalize H1 = H at hP hS ⊢
  cases hm
  exact W.iret hx hb hr (fun t ht hW => ⟨⟨_, (), rfl, rfl, by rw [ht]; exact hP, va_K.moved hW.alike hK, hD⟩, hS.F ht⟩) hS.2.2 d_Mo_apart_10
theorem d_Mo_chordal_0 : decode prog_10_method_35_code 0 = .ok (.aload_n 0, 1) := by decide +kernel
theorem d_Mo_chordal_1 : decode prog_10_method_35_code 1 = .ok (.iconst 0, 1) := by decide +kernel
theorem d_Mo_chordal_2 : decode prog_10_method_35_code 2 = .ok (.putfield 79, 3) := by decide +kernel
theorem d_Mo_chordal_5 : decode prog_10_method_35_code 5 = .ok (.iconst 1, 1) := by decide +kernel
theorem d_Mo_chordal_6 : decode prog_10_method_35_code 6 = .ok (.aload_n 0, 1) := by decide +kernel
theorem d_Mo_chordal_7 : decode prog_10_method_35_code 7 = .ok (.getfield 86, 3) := by decide +kernel
theorem d_Mo_chordal_10 : decode prog_10_method_35_code 10 = .ok (.ishl, 1) := by decide +kernel
theorem d_Mo_chordal_11 : decode prog_10_method_35_code 11 = .ok (.iconst 1, 1) := by decide +kernel
theorem d_Mo_chordal_12 : decode prog_10_method_35_code 12 = .ok (.isub, 1) := by decide +kernel
theorem d_Mo_chordal_13 : decode prog_10_method_35_code 13 = .ok (.istore_n 1, 1) := by decide +kernel
theorem d_Mo_chordal_14 : decode prog_10_method_35_code 14 = .ok (.aload_n 0, 1) := by decide +kernel
theorem d_Mo_chordal_15 : decode prog_10_method_35_code 15 = .ok (.iconst 0, 1) := by decide +kernel
theorem d_Mo_chordal_16 : decode prog_10_method_35_code 16 = .ok (.putfield 92, 3) := by decide +kernel
theorem d_Mo_chordal_19 : decode prog_10_method_35_code 19 = .ok (.iconst 1, 1) := by decide +kernel
theorem d_Mo_chordal_20 : decode prog_10_method_35_code 20 = .ok (.istore_n 2, 1) := by decide +kernel
theorem d_Mo_chordal_21 : decode prog_10_method_35_code 21 = .ok (.iload_n 2, 1) := by decide +kernel
theorem d_Mo_chordal_22 : decode prog_10_method_35_code 22 = .ok (.ifCond .eq 151, 3) := by decide +kernel
theorem d_Mo_chordal_25 : decode prog_10_method_35_code 25 = .ok (.iconst 0, 1) := by decide +kernel
theorem d_Mo_chordal_26 : decode prog_10_method_35_code 26 = .ok (.istore_n 2, 1) := by decide +kernel
theorem d_Mo_chordal_27 : decode prog_10_method_35_code 27 = .ok (.iconst 0, 1) := by decide +kernel
theorem d_Mo_chordal_28 : decode prog_10_method_35_code 28 = .ok (.istore_n 3, 1) := by decide +kernel
theorem d_Mo_chordal_29 : decode prog_10_method_35_code 29 = .ok (.iload_n 3, 1) := by decide +kernel
theorem d_Mo_chordal_30 : decode prog_10_method_35_code 30 = .ok (.aload_n 0, 1) := by decide +kernel
theorem d_Mo_chordal_31 : decode prog_10_method_35_code 31 = .ok (.getfield 86, 3) := by decide +kernel
theorem d_Mo_chordal_34 : decode prog_10_method_35_code 34 = .ok (.if_icmp .ge 136, 3) := by decide +kernel
theorem d_Mo_chordal_37 : decode prog_10_method_35_code 37 = .ok (.iload_n 2, 1) := by decide +kernel
theorem d_Mo_chordal_38 : decode prog_10_method_35_code 38 = .ok (.ifCond .ne 132, 3) := by decide +kernel
theorem d_Mo_chordal_41 : decode prog_10_method_35_code 41 = .ok (.aload_n 0, 1) := by decide +kernel
theorem d_Mo_chordal_42 : decode prog_10_method_35_code 42 = .ok (.getfield 16, 3) := by decide +kernel
theorem d_Mo_chordal_45 : decode prog_10_method_35_code 45 = .ok (.iload_n 3, 1) := by decide +kernel
theorem d_Mo_chordal_46 : decode prog_10_method_35_code 46 = .ok (.iaload, 1) := by decide +kernel
theorem d_Mo_chordal_47 : decode prog_10_method_35_code 47 = .ok (.iload_n 1, 1) := by decide +kernel
theorem d_Mo_chordal_48 : decode prog_10_method_35_code 48 = .ok (.iand, 1) := by decide +kernel
theorem d_Mo_chordal_49 : decode prog_10_method_35_code 49 = .ok (.istore 4, 2) := by decide +kernel
theorem d_Mo_chordal_51 : decode prog_10_method_35_code 51 = .ok (.iload_n 1, 1) := by decide +kernel
theorem d_Mo_chordal_52 : decode prog_10_method_35_code 52 = .ok (.iload_n 3, 1) := by decide +kernel
theorem d_Mo_chordal_53 : decode prog_10_method_35_code 53 = .ok (.ishr, 1) := by decide +kernel
theorem d_Mo_chordal_54 : decode prog_10_method_35_code 54 = .ok (.iconst 1, 1) := by decide +kernel
theorem d_Mo_chordal_55 : decode prog_10_method_35_code 55 = .ok (.iand, 1) := by decide +kernel
theorem d_Mo_chordal_56 : decode prog_10_method_35_code 56 = .ok (.iconst 1, 1) := by decide +kernel
theorem d_Mo_chordal_57 : decode prog_10_method_35_code 57 = .ok (.if_icmp .ne 7, 3) := by decide +kernel
theorem d_Mo_chordal_60 : decode prog_10_method_35_code 60 = .ok (.iconst 1, 1) := by decide +kernel
theorem d_Mo_chordal_61 : decode prog_10_method_35_code 61 = .ok (.goto 4, 3) := by decide +kernel
theorem d_Mo_chordal_64 : decode prog_10_method_35_code 64 = .ok (.iconst 0, 1) := by decide +kernel
theorem d_Mo_chordal_65 : decode prog_10_method_35_code 65 = .ok (.istore 5, 2) := by decide +kernel
theorem d_Mo_chordal_67 : decode prog_10_method_35_code 67 = .ok (.iconst 0, 1) := by decide +kernel
theorem d_Mo_chordal_68 : decode prog_10_method_35_code 68 = .ok (.istore 6, 2) := by decide +kernel
theorem d_Mo_chordal_70 : decode prog_10_method_35_code 70 = .ok (.iload 6, 2) := by decide +kernel
theorem d_Mo_chordal_72 : decode prog_10_method_35_code 72 = .ok (.aload_n 0, 1) := by decide +kernel
theorem d_Mo_chordal_73 : decode prog_10_method_35_code 73 = .ok (.getfield 86, 3) := by decide +kernel
theorem d_Mo_chordal_76 : decode prog_10_method_35_code 76 = .ok (.if_icmp .ge 53, 3) := by decide +kernel
theorem d_Mo_chordal_79 : decode prog_10_method_35_code 79 = .ok (.iload 5, 2) := by decide +kernel
theorem d_Mo_chordal_81 : decode prog_10_method_35_code 81 = .ok (.ifCond .eq 39, 3) := by decide +kernel
theorem d_Mo_chordal_84 : decode prog_10_method_35_code 84 = .ok (.iload 4, 2) := by decide +kernel
theorem d_Mo_chordal_86 : decode prog_10_method_35_code 86 = .ok (.iload 6, 2) := by decide +kernel
theorem d_Mo_chordal_88 : decode prog_10_method_35_code 88 = .ok (.ishr, 1) := by decide +kernel
theorem d_Mo_chordal_89 : decode prog_10_method_35_code 89 = .ok (.iconst 1, 1) := by decide +kernel
theorem d_Mo_chordal_90 : decode prog_10_method_35_code 90 = .ok (.iand, 1) := by decide +kernel
theorem d_Mo_chordal_91 : decode prog_10_method_35_code 91 = .ok (.ifCond .eq 25, 3) := by decide +kernel
theorem d_Mo_chordal_94 : decode prog_10_method_35_code 94 = .ok (.iload 4, 2) := by decide +kernel
theorem d_Mo_chordal_96 : decode prog_10_method_35_code 96 = .ok (.aload_n 0, 1) := by decide +kernel
theorem d_Mo_chordal_97 : decode prog_10_method_35_code 97 = .ok (.getfield 16, 3) := by decide +kernel
theorem d_Mo_chordal_100 : decode prog_10_method_35_code 100 = .ok (.iload 6, 2) := by decide +kernel
theorem d_Mo_chordal_102 : decode prog_10_method_35_code 102 = .ok (.iaload, 1) := by decide +kernel
theorem d_Mo_chordal_103 : decode prog_10_method_35_code 103 = .ok (.iconst (-1), 1) := by decide +kernel
theorem d_Mo_chordal_104 : decode prog_10_method_35_code 104 = .ok (.ixor, 1) := by decide +kernel
theorem d_Mo_chordal_105 : decode prog_10_method_35_code 105 = .ok (.iand, 1) := by decide +kernel
theorem d_Mo_chordal_106 : decode prog_10_method_35_code 106 = .ok (.iconst 1, 1) := by decide +kernel
theorem d_Mo_chordal_107 : decode prog_10_method_35_code 107 = .ok (.iload 6, 2) := by decide +kernel
theorem d_Mo_chordal_109 : decode prog_10_method_35_code 109 = .ok (.ishl, 1) := by decide +kernel
theorem d_Mo_chordal_110 : decode prog_10_method_35_code 110 = .ok (.iconst (-1), 1) := by decide +kernel
theorem d_Mo_chordal_111 : decode prog_10_method_35_code 111 = .ok (.ixor, 1) := by decide +kernel
theorem d_Mo_chordal_112 : decode prog_10_method_35_code 112 = .ok (.iand, 1) := by decide +kernel
theorem d_Mo_chordal_113 : decode prog_10_method_35_code 113 = .ok (.ifCond .ne 7, 3) := by decide +kernel
theorem d_Mo_chordal_116 : decode prog_10_method_35_code 116 = .ok (.iconst 1, 1) := by decide +kernel
theorem d_Mo_chordal_117 : decode prog_10_method_35_code 117 = .ok (.goto 4, 3) := by decide +kernel
theorem d_Mo_chordal_120 : decode prog_10_method_35_code 120 = .ok (.iconst 0, 1) := by decide +kernel
theorem d_Mo_chordal_121 : decode prog_10_method_35_code 121 = .ok (.istore 5, 2) := by decide +kernel
theorem d_Mo_chordal_123 : decode prog_10_method_35_code 123 = .ok (.iinc 6 1, 3) := by decide +kernel
theorem d_Mo_chordal_126 : decode prog_10_method_35_code 126 = .ok (.goto (-56), 3) := by decide +kernel
theorem d_Mo_chordal_129 : decode prog_10_method_35_code 129 = .ok (.iload 5, 2) := by decide +kernel
theorem d_Mo_chordal_131 : decode prog_10_method_35_code 131 = .ok (.ifCond .eq 33, 3) := by decide +kernel
theorem d_Mo_chordal_134 : decode prog_10_method_35_code 134 = .ok (.iload_n 1, 1) := by decide +kernel
theorem d_Mo_chordal_135 : decode prog_10_method_35_code 135 = .ok (.iconst 1, 1) := by decide +kernel
theorem d_Mo_chordal_136 : decode prog_10_method_35_code 136 = .ok (.iload_n 3, 1) := by decide +kernel
theorem d_Mo_chordal_137 : decode prog_10_method_35_code 137 = .ok (.ishl, 1) := by decide +kernel
theorem d_Mo_chordal_138 : decode prog_10_method_35_code 138 = .ok (.iconst (-1), 1) := by decide +kernel
theorem d_Mo_chordal_139 : decode prog_10_method_35_code 139 = .ok (.ixor, 1) := by decide +kernel
theorem d_Mo_chordal_140 : decode prog_10_method_35_code 140 = .ok (.iand, 1) := by decide +kernel
theorem d_Mo_chordal_141 : decode prog_10_method_35_code 141 = .ok (.istore_n 1, 1) := by decide +kernel
theorem d_Mo_chordal_142 : decode prog_10_method_35_code 142 = .ok (.aload_n 0, 1) := by decide +kernel
theorem d_Mo_chordal_143 : decode prog_10_method_35_code 143 = .ok (.getfield 34, 3) := by decide +kernel
theorem d_Mo_chordal_146 : decode prog_10_method_35_code 146 = .ok (.aload_n 0, 1) := by decide +kernel
theorem d_Mo_chordal_147 : decode prog_10_method_35_code 147 = .ok (.getfield 92, 3) := by decide +kernel
theorem d_Mo_chordal_150 : decode prog_10_method_35_code 150 = .ok (.iload_n 3, 1) := by decide +kernel
theorem d_Mo_chordal_151 : decode prog_10_method_35_code 151 = .ok (.iastore, 1) := by decide +kernel
theorem d_Mo_chordal_152 : decode prog_10_method_35_code 152 = .ok (.aload_n 0, 1) := by decide +kernel
theorem d_Mo_chordal_153 : decode prog_10_method_35_code 153 = .ok (.dup, 1) := by decide +kernel
theorem d_Mo_chordal_154 : decode prog_10_method_35_code 154 = .ok (.getfield 92, 3) := by decide +kernel
theorem d_Mo_chordal_157 : decode prog_10_method_35_code 157 = .ok (.iconst 1, 1) := by decide +kernel
theorem d_Mo_chordal_158 : decode prog_10_method_35_code 158 = .ok (.iadd, 1) := by decide +kernel
theorem d_Mo_chordal_159 : decode prog_10_method_35_code 159 = .ok (.putfield 92, 3) := by decide +kernel
theorem d_Mo_chordal_162 : decode prog_10_method_35_code 162 = .ok (.iconst 1, 1) := by decide +kernel
theorem d_Mo_chordal_163 : decode prog_10_method_35_code 163 = .ok (.istore_n 2, 1) := by decide +kernel
theorem d_Mo_chordal_164 : decode prog_10_method_35_code 164 = .ok (.iinc 3 1, 3) := by decide +kernel
theorem d_Mo_chordal_167 : decode prog_10_method_35_code 167 = .ok (.goto (-138), 3) := by decide +kernel
theorem d_Mo_chordal_170 : decode prog_10_method_35_code 170 = .ok (.goto (-149), 3) := by decide +kernel
theorem d_Mo_chordal_173 : decode prog_10_method_35_code 173 = .ok (.aload_n 0, 1) := by decide +kernel
theorem d_Mo_chordal_174 : decode prog_10_method_35_code 174 = .ok (.iload_n 1, 1) := by decide +kernel
theorem d_Mo_chordal_175 : decode prog_10_method_35_code 175 = .ok (.putfield 95, 3) := by decide +kernel
theorem d_Mo_chordal_178 : decode prog_10_method_35_code 178 = .ok (.iload_n 1, 1) := by decide +kernel
theorem d_Mo_chordal_179 : decode prog_10_method_35_code 179 = .ok (.ifCond .ne 7, 3) := by decide +kernel
theorem d_Mo_chordal_182 : decode prog_10_method_35_code 182 = .ok (.iconst 1, 1) := by decide +kernel
theorem d_Mo_chordal_183 : decode prog_10_method_35_code 183 = .ok (.goto 4, 3) := by decide +kernel
theorem d_Mo_chordal_186 : decode prog_10_method_35_code 186 = .ok (.iconst 0, 1) := by decide +kernel
theorem d_Mo_chordal_187 : decode prog_10_method_35_code 187 = .ok (.ireturn, 1) := by decide +kernel
abbrev wd_Mo_chordal (cI cJ cG cZ : ClassId) (a0 a0_from a0_to a0_near a0_lists a0_colours a0_shades a0_tints a0_attempt a0_taken a0_isApart a0_ways a0_next a0_splits a0_powers a0_row a0_many a0_can a0_could a0_arcRow a0_order a0_isOut : Nat) (v0_thrown : Int32) (v0_nodes : Int32) (v0_arcs : Int32) (v0_takenMany : Int32) (v0_leftBits : Int32) (v0_hasPolynomial : Int32) (v0_hasLists : Int32) (w0_near : Nat → Int32) (w0_taken : Nat → Int32) : va_W := [(a0, .inr (8, [.int v0_thrown, .int v0_nodes, .int v0_arcs, .ref a0_from, .ref a0_to, .ref a0_near, .ref a0_lists, .ref a0_colours, .ref a0_shades, .ref a0_tints, .ref a0_attempt, .int v0_takenMany, .ref a0_taken, .int v0_leftBits, .ref a0_isApart, .ref a0_ways, .ref a0_next, .ref a0_splits, .ref a0_powers, .ref a0_row, .ref a0_many, .int v0_hasPolynomial, .int v0_hasLists, .ref a0_can, .ref a0_could, .ref a0_arcRow, .ref a0_order, .ref a0_isOut])), (a0_near, .inl (cI, 12, .inl w0_near)), (a0_taken, .inl (cI, 12, .inl w0_taken))]
abbrev us_Mo_chordal : List Cond := .code y_Mo_chordal prog_10_method_35_code 7 (some .int) :: gtbl
abbrev rm_Mo_chordal : Room := { frames := 0, cells := 0, slots := 0, locals := 0 }
def m_Mo_chordal (F : Nat) (v0_thrown : Int32) (v0_nodes : Int32) (v0_arcs : Int32) (v0_takenMany : Int32) (v0_leftBits : Int32) (v0_hasPolynomial : Int32) (v0_hasLists : Int32) (w0_near : Nat → Int32) (w0_taken : Nat → Int32) : Option (Int32 × Int32 × Int32 × Int32 × (Nat → Int32)) :=
  gB (((1 : Int32) <<< (v0_nodes &&& 31)) - 1) (fun x1_1 =>
  gL (fun (k_21 : (Int32 × Int32 × Int32 × (Nat → Int32)) → Option (Int32 × Int32 × Int32 × Int32 × (Nat → Int32))) (z_21 : Int32 × Int32 × Int32 × (Nat → Int32)) => match z_21 with
  | (x1_2, x2_3, v0_takenMany_4, w0_taken_5) =>
  if x2_3 = 0 then (
    if x1_2 = 0 then (
      some (1, 0, v0_takenMany_4, x1_2, w0_taken_5)
    ) else (
      some (0, 0, v0_takenMany_4, x1_2, w0_taken_5)
    )
  ) else (
    gL (fun (k_29 : (Int32 × Int32 × Int32 × Int32 × (Nat → Int32)) → Option (Int32 × Int32 × Int32 × Int32 × (Nat → Int32))) (z_29 : Int32 × Int32 × Int32 × Int32 × (Nat → Int32)) => match z_29 with
    | (x1_8, x2_9, x3_10, v0_takenMany_11, w0_taken_12) =>
    if v0_nodes ≤ x3_10 then (
      k_21 (x1_8, x2_9, v0_takenMany_11, w0_taken_12)
    ) else (
      if x2_9 = 0 then (
        gC (inb x3_10 12) (
        gB ((w0_near x3_10.toNatClampNeg) &&& x1_8) (fun x4_16 =>
        gB (α := Int32 → Option (Int32 × Int32 × Int32 × Int32 × (Nat → Int32))) (fun s_17 =>
          gL (fun (k_70 : (Int32 × Int32) → Option (Int32 × Int32 × Int32 × Int32 × (Nat → Int32))) (z_70 : Int32 × Int32) => match z_70 with
          | (x5_18, x6_19) =>
          if v0_nodes ≤ x6_19 then (
            if x5_18 = 0 then (
              gB (x3_10 + 1) (fun x3_22 =>
              k_29 (x1_8, x2_9, x3_22, v0_takenMany_11, w0_taken_12))
            ) else (
              gB (x1_8 &&& (((1 : Int32) <<< (x3_10 &&& 31)) ^^^ (-1))) (fun x1_23 =>
              gC (inb v0_takenMany_11 12) (
              gB (v0_takenMany_11 + 1) (fun f_25 =>
              gB (x3_10 + 1) (fun x3_26 =>
              k_29 (x1_23, 1, x3_26, f_25, upd w0_taken_12 v0_takenMany_11.toNatClampNeg x3_10)))))
            )
          ) else (
            if x5_18 = 0 then (
              gB (x6_19 + 1) (fun x6_28 =>
              k_70 (0, x6_28))
            ) else (
              gB (α := Option (Int32 × Int32 × Int32 × Int32 × (Nat → Int32))) (
                gB (x6_19 + 1) (fun x6_29 =>
                k_70 (1, x6_29))
              ) (fun J_116 =>
              if ((x4_16 >>> (x6_19 &&& 31)) &&& 1) = 0 then (
                J_116
              ) else (
                gC (inb x6_19 12) (
                if ((x4_16 &&& ((w0_near x6_19.toNatClampNeg) ^^^ (-1))) &&& (((1 : Int32) <<< (x6_19 &&& 31)) ^^^ (-1))) = 0 then (
                  J_116
                ) else (
                  gB (x6_19 + 1) (fun x6_33 =>
                  k_70 (0, x6_33))
                ))
              )
              )
            )
          )
          ) F (s_17, 0)
        ) (fun J_65 =>
        if ((x1_8 >>> (x3_10 &&& 31)) &&& 1) = (1 : Int32) then (
          J_65 1
        ) else (
          J_65 0
        )
        )))
      ) else (
        k_21 (x1_8, x2_9, v0_takenMany_11, w0_taken_12)
      )
    )
    ) F (x1_2, 0, 0, v0_takenMany_4, w0_taken_5)
  )
  ) F (x1_1, 1, 0, w0_taken))
set_option maxHeartbeats 4000000 in
set_option maxRecDepth 100000 in
theorem c_Mo_chordal (l : Launch) (dC : Nat → ClassId) (dI : Nat → Nat → Nat) (cI cJ cG cZ : ClassId) (a0 a0_from a0_to a0_near a0_lists a0_colours a0_shades a0_tints a0_attempt a0_taken a0_isApart a0_ways a0_next a0_splits a0_powers a0_row a0_many a0_can a0_could a0_arcRow a0_order a0_isOut : Nat) (sz : Nat) (F : Nat) (v0_thrown : Int32) (v0_nodes : Int32) (v0_arcs : Int32) (v0_takenMany : Int32) (v0_leftBits : Int32) (v0_hasPolynomial : Int32) (v0_hasLists : Int32) (w0_near : Nat → Int32) (w0_taken : Nat → Int32) (ret : Int32) (o_v0_thrown : Int32) (o_v0_takenMany : Int32) (o_v0_leftBits : Int32) (o_w0_taken : Nat → Int32) (hm : m_Mo_chordal F v0_thrown v0_nodes v0_arcs v0_takenMany v0_leftBits v0_hasPolynomial v0_hasLists w0_near w0_taken = some (ret, o_v0_thrown, o_v0_takenMany, o_v0_leftBits, o_w0_taken)) : Met l y_Mo_chordal us_Mo_chordal rm_Mo_chordal (PcS (dC, dI) (tyL cI cJ cG cZ) [.ref a0] sz (wd_Mo_chordal cI cJ cG cZ a0 a0_from a0_to a0_near a0_lists a0_colours a0_shades a0_tints a0_attempt a0_taken a0_isApart a0_ways a0_next a0_splits a0_powers a0_row a0_many a0_can a0_could a0_arcRow a0_order a0_isOut v0_thrown v0_nodes v0_arcs v0_takenMany v0_leftBits v0_hasPolynomial v0_hasLists w0_near w0_taken)) (va_Qi (fun (r : Int32) (_ : Unit) => ret = r) (fun _ t => PoS (dC, dI) (tyL cI cJ cG cZ) (wd_Mo_chordal cI cJ cG cZ a0 a0_from a0_to a0_near a0_lists a0_colours a0_shades a0_tints a0_attempt a0_taken a0_isApart a0_ways a0_next a0_splits a0_powers a0_row a0_many a0_can a0_could a0_arcRow a0_order a0_isOut o_v0_thrown v0_nodes v0_arcs o_v0_takenMany o_v0_leftBits v0_hasPolynomial v0_hasLists w0_near o_w0_taken) (va_A (wd_Mo_chordal cI cJ cG cZ a0 a0_from a0_to a0_near a0_lists a0_colours a0_shades a0_tints a0_attempt a0_taken a0_isApart a0_ways a0_next a0_splits a0_powers a0_row a0_many a0_can a0_could a0_arcRow a0_order a0_isOut v0_thrown v0_nodes v0_arcs v0_takenMany v0_leftBits v0_hasPolynomial v0_hasLists w0_near w0_taken) sz) t) (va_A (wd_Mo_chordal cI cJ cG cZ a0 a0_from a0_to a0_near a0_lists a0_colours a0_shades a0_tints a0_attempt a0_taken a0_isApart a0_ways a0_next a0_splits a0_powers a0_row a0_many a0_can a0_could a0_arcRow a0_order a0_isOut v0_thrown v0_nodes v0_arcs v0_takenMany v0_leftBits v0_hasPolynomial v0_hasLists w0_near w0_taken) sz)) 0 0 (va_A (wd_Mo_chordal cI cJ cG cZ a0 a0_from a0_to a0_near a0_lists a0_colours a0_shades a0_tints a0_attempt a0_taken a0_isApart a0_ways a0_next a0_splits a0_powers a0_row a0_many a0_can a0_could a0_arcRow a0_order a0_isOut v0_thrown v0_nodes v0_arcs v0_takenMany v0_leftBits v0_hasPolynomial v0_hasLists w0_near w0_taken) sz) := by
  refine Met.ofW (cc := prog_10_method_35_code) (maxL := 7) (ret := (some .int)) (by decide) rfl ?_
  intro p e s m args below meth c s₁ B hml hv
  obtain ⟨rfl, hsz, hP, hK, hD0, hNw⟩ := hv
  have hx := B.exec
  have hb := B.bytes
  have hr := B.returns
  have htt : ∀ w ∈ gtbl, w.before _ s = true := fun w h => atoms_spec (ws := us_Mo_chordal) B.pre w (List.mem_cons_of_mem _ h)
  have hown : s.vm.findClass R_Mo = some m.cls := findClass_of_methodNamed B.named
  have hlocks := B.notSynchronized
  subst hsz
  have hD := hD0.self (sz := s.heap.size)
  generalize hAe : va_A (wd_Mo_chordal cI cJ cG cZ a0 a0_from a0_to a0_near a0_lists a0_colours a0_shades a0_tints a0_attempt a0_taken a0_isApart a0_ways a0_next a0_splits a0_powers a0_row a0_many a0_can a0_could a0_arcRow a0_order a0_isOut v0_thrown v0_nodes v0_arcs v0_takenMany v0_leftBits v0_hasPolynomial v0_hasLists w0_near w0_taken) s.heap.size = A at hD ⊢
  have hA : ∀ q : Nat, s.heap.size ≤ q → A q := fun q h => by rw [← hAe]; exact Or.inr h
  clear hAe hD0
  have hS : va_S A s.heap s.heap [] := va_S.rf
  have hl := lv_entry ([.ref a0]) (n := 7) (Nat.le_of_ble_eq_true rfl)
  rw [lg_entry_eq]
  generalize (lg_sl ([.ref a0]) ++ List.replicate (7 - (lg_sl ([.ref a0])).length) Slot.unset).toArray = ls at hl ⊢
  have hl : lv_has ls 7 [(0, .ref a0)] := hl
  generalize hH : s.heap = H at hP ⊢
  have hS : va_S A s.heap H [] := hH ▸ hS
  generalize hLo : ([] : List Loc) = locs at hS ⊢
  clear hH hLo
  unfold m_Mo_chordal at hm
  refine lv_aload_n hx hb d_Mo_chordal_0 rfl (lv_at hl 0 rfl) ?_
  refine lv_iconst (v := 0) hx hb d_Mo_chordal_1 (by decide) ?_
  refine va_put (D := (dC, dI)) (ci := 8) (v := .int 0) (ty := .int) (C := R_Mo) (T := T_Mo) (N := 28) hx hb htt hin_Mo ty_Mo tyok_Mo nm_Mo hown hK hP hD hS 0 rfl rfl 0 (by decide) (htt _ kt_769) (fun _ h9 => h9) rfl (by decide +kernel) rfl rfl (Nat.le_of_ble_eq_true rfl) d_Mo_chordal_2 (fun H locs hP hD hS => ?_)
  have hP : va_P (dC, dI) vwCl (wd_Mo_chordal cI cJ cG cZ a0 a0_from a0_to a0_near a0_lists a0_colours a0_shades a0_tints a0_attempt a0_taken a0_isApart a0_ways a0_next a0_splits a0_powers a0_row a0_many a0_can a0_could a0_arcRow a0_order a0_isOut 0 v0_nodes v0_arcs v0_takenMany v0_leftBits v0_hasPolynomial v0_hasLists w0_near w0_taken) H := hP
  have hD : va_D A (wd_Mo_chordal cI cJ cG cZ a0 a0_from a0_to a0_near a0_lists a0_colours a0_shades a0_tints a0_attempt a0_taken a0_isApart a0_ways a0_next a0_splits a0_powers a0_row a0_many a0_can a0_could a0_arcRow a0_order a0_isOut 0 v0_nodes v0_arcs v0_takenMany v0_leftBits v0_hasPolynomial v0_hasLists w0_near w0_taken) := hD
  refine lv_iconst (v := 1) hx hb d_Mo_chordal_5 (by decide) ?_
  refine lv_aload_n hx hb d_Mo_chordal_6 rfl (lv_at hl 0 rfl) ?_
  refine va_get (D := (dC, dI)) (ci := 8) (v := .int v0_nodes) (C := R_Mo) (T := T_Mo) (N := 28) hx hb htt hin_Mo hown hK hP 0 rfl rfl 1 (by decide) (htt _ kt_770) (fun _ h9 => h9) rfl d_Mo_chordal_7 ?_
  refine lv_ishl hx hb d_Mo_chordal_10 ?_
  refine lv_iconst (v := 1) hx hb d_Mo_chordal_11 (by decide) ?_
  refine lv_isub hx hb d_Mo_chordal_12 ?_
  refine lv_topi (fun x1_1 ex1_1 => ?_)
  have hm := gB_at ex1_1 hm
  refine lv_istore_n (lv' := [(1, .int x1_1), (0, .ref a0)]) hx hb d_Mo_chordal_13 rfl hl (by decide) rfl (fun ls hl => ?_)
  refine lv_aload_n hx hb d_Mo_chordal_14 rfl (lv_at hl 1 rfl) ?_
  refine lv_iconst (v := 0) hx hb d_Mo_chordal_15 (by decide) ?_
  refine va_put (D := (dC, dI)) (ci := 8) (v := .int 0) (ty := .int) (C := R_Mo) (T := T_Mo) (N := 28) hx hb htt hin_Mo ty_Mo tyok_Mo nm_Mo hown hK hP hD hS 0 rfl rfl 11 (by decide) (htt _ kt_780) (fun _ h9 => h9) rfl (by decide +kernel) rfl rfl (Nat.le_of_ble_eq_true rfl) d_Mo_chordal_16 (fun H locs hP hD hS => ?_)
  have hP : va_P (dC, dI) vwCl (wd_Mo_chordal cI cJ cG cZ a0 a0_from a0_to a0_near a0_lists a0_colours a0_shades a0_tints a0_attempt a0_taken a0_isApart a0_ways a0_next a0_splits a0_powers a0_row a0_many a0_can a0_could a0_arcRow a0_order a0_isOut 0 v0_nodes v0_arcs 0 v0_leftBits v0_hasPolynomial v0_hasLists w0_near w0_taken) H := hP
  have hD : va_D A (wd_Mo_chordal cI cJ cG cZ a0 a0_from a0_to a0_near a0_lists a0_colours a0_shades a0_tints a0_attempt a0_taken a0_isApart a0_ways a0_next a0_splits a0_powers a0_row a0_many a0_can a0_could a0_arcRow a0_order a0_isOut 0 v0_nodes v0_arcs 0 v0_leftBits v0_hasPolynomial v0_hasLists w0_near w0_taken) := hD
  refine lv_iconst (v := 1) hx hb d_Mo_chordal_19 (by decide) ?_
  refine lv_istore_n (lv' := [(2, .int 1), (1, .int x1_1), (0, .ref a0)]) hx hb d_Mo_chordal_20 rfl hl (by decide) rfl (fun ls hl => ?_)
  refine gL_e (P := (fun (z_21 : Int32 × Int32 × Int32 × (Nat → Int32)) => ∀ (x1_2 : Int32), ∀ (x2_3 : Int32), ∀ (v0_takenMany_4 : Int32), ∀ (w0_taken_5 : Nat → Int32), z_21 = (x1_2, x2_3, v0_takenMany_4, w0_taken_5) → ∀ (ls : Array Slot) (H : Heap) (locs : List Loc), lv_has ls 7 [(0, .ref a0), (1, .int x1_2), (2, .int x2_3)] → va_P (dC, dI) vwCl (wd_Mo_chordal cI cJ cG cZ a0 a0_from a0_to a0_near a0_lists a0_colours a0_shades a0_tints a0_attempt a0_taken a0_isApart a0_ways a0_next a0_splits a0_powers a0_row a0_many a0_can a0_could a0_arcRow a0_order a0_isOut 0 v0_nodes v0_arcs v0_takenMany_4 v0_leftBits v0_hasPolynomial v0_hasLists w0_near w0_taken_5) H → va_D A (wd_Mo_chordal cI cJ cG cZ a0 a0_from a0_to a0_near a0_lists a0_colours a0_shades a0_tints a0_attempt a0_taken a0_isApart a0_ways a0_next a0_splits a0_powers a0_row a0_many a0_can a0_could a0_arcRow a0_order a0_isOut 0 v0_nodes v0_arcs v0_takenMany_4 v0_leftBits v0_hasPolynomial v0_hasLists w0_near w0_taken_5) → va_S A s.heap H locs → W p l e (headSpec us_Mo_chordal rm_Mo_chordal).room s m ([.ref a0] : List Value).toArray below meth c H locs 0 0 (MQ below (va_Qi (fun (r : Int32) (_ : Unit) => ret = r) (fun _ t => PoS (dC, dI) (tyL cI cJ cG cZ) (wd_Mo_chordal cI cJ cG cZ a0 a0_from a0_to a0_near a0_lists a0_colours a0_shades a0_tints a0_attempt a0_taken a0_isApart a0_ways a0_next a0_splits a0_powers a0_row a0_many a0_can a0_could a0_arcRow a0_order a0_isOut o_v0_thrown v0_nodes v0_arcs o_v0_takenMany o_v0_leftBits v0_hasPolynomial v0_hasLists w0_near o_w0_taken) A t) A) ([.ref a0] : List Value).toArray s 0 0 A) (F0 m 21 ls []))) hm (fun k_21 z_21 ih_21 hm => ?_) _ _ _ _ rfl ls H locs (lv_sub hl [2, 1, 0] rfl) hP hD hS
  intro x1_2 x2_3 v0_takenMany_4 w0_taken_5 hz ls H locs hl hP hD hS
  subst hz
  dsimp only at hm
  refine lv_iload_n hx hb d_Mo_chordal_21 rfl (lv_at hl 2 rfl) ?_
  refine lv_if_eq (tgt := 173) hx hb d_Mo_chordal_22 (by decide) (fun c_6 => ?_) (fun c_6 => ?_)
  · have hm := ite_t c_6 hm
    refine lv_aload_n hx hb d_Mo_chordal_173 rfl (lv_at hl 0 rfl) ?_
    refine lv_iload_n hx hb d_Mo_chordal_174 rfl (lv_at hl 1 rfl) ?_
    refine va_put (D := (dC, dI)) (ci := 8) (v := .int x1_2) (ty := .int) (C := R_Mo) (T := T_Mo) (N := 28) hx hb htt hin_Mo ty_Mo tyok_Mo nm_Mo hown hK hP hD hS 0 rfl rfl 13 (by decide) (htt _ kt_782) (fun _ h9 => h9) rfl (by decide +kernel) rfl rfl (Nat.le_of_ble_eq_true rfl) d_Mo_chordal_175 (fun H locs hP hD hS => ?_)
    have hP : va_P (dC, dI) vwCl (wd_Mo_chordal cI cJ cG cZ a0 a0_from a0_to a0_near a0_lists a0_colours a0_shades a0_tints a0_attempt a0_taken a0_isApart a0_ways a0_next a0_splits a0_powers a0_row a0_many a0_can a0_could a0_arcRow a0_order a0_isOut 0 v0_nodes v0_arcs v0_takenMany_4 x1_2 v0_hasPolynomial v0_hasLists w0_near w0_taken_5) H := hP
    have hD : va_D A (wd_Mo_chordal cI cJ cG cZ a0 a0_from a0_to a0_near a0_lists a0_colours a0_shades a0_tints a0_attempt a0_taken a0_isApart a0_ways a0_next a0_splits a0_powers a0_row a0_many a0_can a0_could a0_arcRow a0_order a0_isOut 0 v0_nodes v0_arcs v0_takenMany_4 x1_2 v0_hasPolynomial v0_hasLists w0_near w0_taken_5) := hD
    refine lv_iload_n hx hb d_Mo_chordal_178 rfl (lv_at hl 1 rfl) ?_
    refine lv_if_ne (tgt := 186) hx hb d_Mo_chordal_179 (by decide) (fun c_7 => ?_) (fun c_7 => ?_)
    · have hm := ite_f c_7 hm
      refine lv_iconst (v := 0) hx hb d_Mo_chordal_186 (by decide) ?_
      cases hm
      exact W.iret hx hb hr (fun t ht hW => ⟨⟨_, (), rfl, rfl, by rw [ht]; exact hP, va_K.moved hW.alike hK, hD⟩, hS.F ht⟩) hS.2.2 d_Mo_chordal_187
    · have hm := ite_t c_7 hm
      refine lv_iconst (v := 1) hx hb d_Mo_chordal_182 (by decide) ?_
      refine lv_goto (tgt := 187) hx hb d_Mo_chordal_183 (by decide) ?_
      cases hm
      exact W.iret hx hb hr (fun t ht hW => ⟨⟨_, (), rfl, rfl, by rw [ht]; exact hP, va_K.moved hW.alike hK, hD⟩, hS.F ht⟩) hS.2.2 d_Mo_chordal_187
  · have hm := ite_f c_6 hm
    refine lv_iconst (v := 0) hx hb d_Mo_chordal_25 (by decide) ?_
    refine lv_istore_n (lv' := [(2, .int 0), (0, .ref a0), (1, .int x1_2)]) hx hb d_Mo_chordal_26 rfl hl (by decide) rfl (fun ls hl => ?_)
    refine lv_iconst (v := 0) hx hb d_Mo_chordal_27 (by decide) ?_
    refine lv_istore_n (lv' := [(3, .int 0), (2, .int 0), (0, .ref a0), (1, .int x1_2)]) hx hb d_Mo_chordal_28 rfl hl (by decide) rfl (fun ls hl => ?_)
    refine gL_e (P := (fun (z_29 : Int32 × Int32 × Int32 × Int32 × (Nat → Int32)) => ∀ (x1_8 : Int32), ∀ (x2_9 : Int32), ∀ (x3_10 : Int32), ∀ (v0_takenMany_11 : Int32), ∀ (w0_taken_12 : Nat → Int32), z_29 = (x1_8, x2_9, x3_10, v0_takenMany_11, w0_taken_12) → ∀ (ls : Array Slot) (H : Heap) (locs : List Loc), lv_has ls 7 [(0, .ref a0), (1, .int x1_8), (2, .int x2_9), (3, .int x3_10)] → va_P (dC, dI) vwCl (wd_Mo_chordal cI cJ cG cZ a0 a0_from a0_to a0_near a0_lists a0_colours a0_shades a0_tints a0_attempt a0_taken a0_isApart a0_ways a0_next a0_splits a0_powers a0_row a0_many a0_can a0_could a0_arcRow a0_order a0_isOut 0 v0_nodes v0_arcs v0_takenMany_11 v0_leftBits v0_hasPolynomial v0_hasLists w0_near w0_taken_12) H → va_D A (wd_Mo_chordal cI cJ cG cZ a0 a0_from a0_to a0_near a0_lists a0_colours a0_shades a0_tints a0_attempt a0_taken a0_isApart a0_ways a0_next a0_splits a0_powers a0_row a0_many a0_can a0_could a0_arcRow a0_order a0_isOut 0 v0_nodes v0_arcs v0_takenMany_11 v0_leftBits v0_hasPolynomial v0_hasLists w0_near w0_taken_12) → va_S A s.heap H locs → W p l e (headSpec us_Mo_chordal rm_Mo_chordal).room s m ([.ref a0] : List Value).toArray below meth c H locs 0 0 (MQ below (va_Qi (fun (r : Int32) (_ : Unit) => ret = r) (fun _ t => PoS (dC, dI) (tyL cI cJ cG cZ) (wd_Mo_chordal cI cJ cG cZ a0 a0_from a0_to a0_near a0_lists a0_colours a0_shades a0_tints a0_attempt a0_taken a0_isApart a0_ways a0_next a0_splits a0_powers a0_row a0_many a0_can a0_could a0_arcRow a0_order a0_isOut o_v0_thrown v0_nodes v0_arcs o_v0_takenMany o_v0_leftBits v0_hasPolynomial v0_hasLists w0_near o_w0_taken) A t) A) ([.ref a0] : List Value).toArray s 0 0 A) (F0 m 29 ls []))) hm (fun k_29 z_29 ih_29 hm => ?_) _ _ _ _ _ rfl ls H locs (lv_sub hl [2, 3, 1, 0] rfl) hP hD hS
    intro x1_8 x2_9 x3_10 v0_takenMany_11 w0_taken_12 hz ls H locs hl hP hD hS
    subst hz
    dsimp only at hm
    refine lv_iload_n hx hb d_Mo_chordal_29 rfl (lv_at hl 3 rfl) ?_
    refine lv_aload_n hx hb d_Mo_chordal_30 rfl (lv_at hl 0 rfl) ?_
    refine va_get (D := (dC, dI)) (ci := 8) (v := .int v0_nodes) (C := R_Mo) (T := T_Mo) (N := 28) hx hb htt hin_Mo hown hK hP 0 rfl rfl 1 (by decide) (htt _ kt_770) (fun _ h9 => h9) rfl d_Mo_chordal_31 ?_
    refine lv_icmp_ge (tgt := 170) hx hb d_Mo_chordal_34 (by decide) (fun c_13 => ?_) (fun c_13 => ?_)
    · have hm := ite_t c_13 hm
      refine lv_goto (tgt := 21) hx hb d_Mo_chordal_170 (by decide) ?_
      exact ih_21 _ hm _ _ _ _ rfl ls H locs (lv_sub hl [0, 1, 2] rfl) hP hD hS
    · have hm := ite_f c_13 hm
      refine lv_iload_n hx hb d_Mo_chordal_37 rfl (lv_at hl 2 rfl) ?_
      refine lv_if_ne (tgt := 170) hx hb d_Mo_chordal_38 (by decide) (fun c_14 => ?_) (fun c_14 => ?_)
      · have hm := ite_f c_14 hm
        refine lv_goto (tgt := 21) hx hb d_Mo_chordal_170 (by decide) ?_
        exact ih_21 _ hm _ _ _ _ rfl ls H locs (lv_sub hl [0, 1, 2] rfl) hP hD hS
      · have hm := ite_t c_14 hm
        refine lv_aload_n hx hb d_Mo_chordal_41 rfl (lv_at hl 0 rfl) ?_
        refine va_get (D := (dC, dI)) (ci := 8) (v := .ref a0_near) (C := R_Mo) (T := T_Mo) (N := 28) hx hb htt hin_Mo hown hK hP 0 rfl rfl 5 (by decide) (htt _ kt_774) (fun _ h9 => h9) rfl d_Mo_chordal_42 ?_
        refine lv_iload_n hx hb d_Mo_chordal_45 rfl (lv_at hl 3 rfl) ?_
        obtain ⟨hi_15, hm⟩ := gC_e hm
        refine va_iald hx hb hK hP 1 0 rfl rfl (inb_vp hi_15) d_Mo_chordal_46 ?_
        refine lv_iload_n hx hb d_Mo_chordal_47 rfl (lv_at hl 1 rfl) ?_
        refine lv_iand hx hb d_Mo_chordal_48 ?_
        refine lv_topi (fun x4_16 ex4_16 => ?_)
        have hm := gB_at ex4_16 hm
        refine lv_istore (lv' := [(4, .int x4_16), (0, .ref a0), (1, .int x1_8), (2, .int x2_9), (3, .int x3_10)]) hx hb d_Mo_chordal_49 hl (by decide) rfl (fun ls hl => ?_)
        refine lv_iload_n hx hb d_Mo_chordal_51 rfl (lv_at hl 2 rfl) ?_
        refine lv_iload_n hx hb d_Mo_chordal_52 rfl (lv_at hl 4 rfl) ?_
        refine lv_ishr hx hb d_Mo_chordal_53 ?_
        refine lv_iconst (v := 1) hx hb d_Mo_chordal_54 (by decide) ?_
        refine lv_iand hx hb d_Mo_chordal_55 ?_
        refine lv_iconst (v := 1) hx hb d_Mo_chordal_56 (by decide) ?_
        obtain ⟨J_65, hJ_65, hm⟩ := gB_x hm
        have jp_65 : ∀ (s_17 : Int32) (ls : Array Slot) (H : Heap) (locs : List Loc), J_65 s_17 = some (ret, o_v0_thrown, o_v0_takenMany, o_v0_leftBits, o_w0_taken) → lv_has ls 7 [(0, .ref a0), (1, .int x1_8), (2, .int x2_9), (3, .int x3_10), (4, .int x4_16)] → va_P (dC, dI) vwCl (wd_Mo_chordal cI cJ cG cZ a0 a0_from a0_to a0_near a0_lists a0_colours a0_shades a0_tints a0_attempt a0_taken a0_isApart a0_ways a0_next a0_splits a0_powers a0_row a0_many a0_can a0_could a0_arcRow a0_order a0_isOut 0 v0_nodes v0_arcs v0_takenMany_11 v0_leftBits v0_hasPolynomial v0_hasLists w0_near w0_taken_12) H → va_D A (wd_Mo_chordal cI cJ cG cZ a0 a0_from a0_to a0_near a0_lists a0_colours a0_shades a0_tints a0_attempt a0_taken a0_isApart a0_ways a0_next a0_splits a0_powers a0_row a0_many a0_can a0_could a0_arcRow a0_order a0_isOut 0 v0_nodes v0_arcs v0_takenMany_11 v0_leftBits v0_hasPolynomial v0_hasLists w0_near w0_taken_12) → va_S A s.heap H locs → W p l e (headSpec us_Mo_chordal rm_Mo_chordal).room s m ([.ref a0] : List Value).toArray below meth c H locs 0 0 (MQ below (va_Qi (fun (r : Int32) (_ : Unit) => ret = r) (fun _ t => PoS (dC, dI) (tyL cI cJ cG cZ) (wd_Mo_chordal cI cJ cG cZ a0 a0_from a0_to a0_near a0_lists a0_colours a0_shades a0_tints a0_attempt a0_taken a0_isApart a0_ways a0_next a0_splits a0_powers a0_row a0_many a0_can a0_could a0_arcRow a0_order a0_isOut o_v0_thrown v0_nodes v0_arcs o_v0_takenMany o_v0_leftBits v0_hasPolynomial v0_hasLists w0_near o_w0_taken) A t) A) ([.ref a0] : List Value).toArray s 0 0 A) (F0 m 65 ls [.int s_17]) := by
          intro s_17 ls H locs hm hl hP hD hS
          have hm := jn1 hJ_65 hm
          refine lv_istore (lv' := [(5, .int s_17), (0, .ref a0), (1, .int x1_8), (2, .int x2_9), (3, .int x3_10), (4, .int x4_16)]) hx hb d_Mo_chordal_65 hl (by decide) rfl (fun ls hl => ?_)
          refine lv_iconst (v := 0) hx hb d_Mo_chordal_67 (by decide) ?_
          refine lv_istore (lv' := [(6, .int 0), (5, .int s_17), (0, .ref a0), (1, .int x1_8), (2, .int x2_9), (3, .int x3_10), (4, .int x4_16)]) hx hb d_Mo_chordal_68 hl (by decide) rfl (fun ls hl => ?_)
          refine gL_e (P := (fun (z_70 : Int32 × Int32) => ∀ (x5_18 : Int32), ∀ (x6_19 : Int32), z_70 = (x5_18, x6_19) → ∀ (ls : Array Slot) (H : Heap) (locs : List Loc), lv_has ls 7 [(0, .ref a0), (1, .int x1_8), (2, .int x2_9), (3, .int x3_10), (4, .int x4_16), (5, .int x5_18), (6, .int x6_19)] → va_P (dC, dI) vwCl (wd_Mo_chordal cI cJ cG cZ a0 a0_from a0_to a0_near a0_lists a0_colours a0_shades a0_tints a0_attempt a0_taken a0_isApart a0_ways a0_next a0_splits a0_powers a0_row a0_many a0_can a0_could a0_arcRow a0_order a0_isOut 0 v0_nodes v0_arcs v0_takenMany_11 v0_leftBits v0_hasPolynomial v0_hasLists w0_near w0_taken_12) H → va_D A (wd_Mo_chordal cI cJ cG cZ a0 a0_from a0_to a0_near a0_lists a0_colours a0_shades a0_tints a0_attempt a0_taken a0_isApart a0_ways a0_next a0_splits a0_powers a0_row a0_many a0_can a0_could a0_arcRow a0_order a0_isOut 0 v0_nodes v0_arcs v0_takenMany_11 v0_leftBits v0_hasPolynomial v0_hasLists w0_near w0_taken_12) → va_S A s.heap H locs → W p l e (headSpec us_Mo_chordal rm_Mo_chordal).room s m ([.ref a0] : List Value).toArray below meth c H locs 0 0 (MQ below (va_Qi (fun (r : Int32) (_ : Unit) => ret = r) (fun _ t => PoS (dC, dI) (tyL cI cJ cG cZ) (wd_Mo_chordal cI cJ cG cZ a0 a0_from a0_to a0_near a0_lists a0_colours a0_shades a0_tints a0_attempt a0_taken a0_isApart a0_ways a0_next a0_splits a0_powers a0_row a0_many a0_can a0_could a0_arcRow a0_order a0_isOut o_v0_thrown v0_nodes v0_arcs o_v0_takenMany o_v0_leftBits v0_hasPolynomial v0_hasLists w0_near o_w0_taken) A t) A) ([.ref a0] : List Value).toArray s 0 0 A) (F0 m 70 ls []))) hm (fun k_70 z_70 ih_70 hm => ?_) _ _ rfl ls H locs (lv_sub hl [2, 3, 4, 5, 6, 1, 0] rfl) hP hD hS
          intro x5_18 x6_19 hz ls H locs hl hP hD hS
          subst hz
          dsimp only at hm
          refine lv_iload hx hb d_Mo_chordal_70 (lv_at hl 6 rfl) ?_
          refine lv_aload_n hx hb d_Mo_chordal_72 rfl (lv_at hl 0 rfl) ?_
          refine va_get (D := (dC, dI)) (ci := 8) (v := .int v0_nodes) (C := R_Mo) (T := T_Mo) (N := 28) hx hb htt hin_Mo hown hK hP 0 rfl rfl 1 (by decide) (htt _ kt_770) (fun _ h9 => h9) rfl d_Mo_chordal_73 ?_
          refine lv_icmp_ge (tgt := 129) hx hb d_Mo_chordal_76 (by decide) (fun c_20 => ?_) (fun c_20 => ?_)
          · have hm := ite_t c_20 hm
            refine lv_iload hx hb d_Mo_chordal_129 (lv_at hl 5 rfl) ?_
            refine lv_if_eq (tgt := 164) hx hb d_Mo_chordal_131 (by decide) (fun c_21 => ?_) (fun c_21 => ?_)
            · have hm := ite_t c_21 hm
              obtain ⟨x3_22, ex3_22⟩ : ∃ y : Int32, y = x3_10 + 1 := ⟨_, rfl⟩
              have hm := gB_at ex3_22 hm
              refine lv_iinc (v := x3_22) (lv' := [(3, .int x3_22), (0, .ref a0), (1, .int x1_8), (2, .int x2_9), (4, .int x4_16), (5, .int x5_18), (6, .int x6_19)]) hx hb d_Mo_chordal_164 hl (k := 3) rfl (by rw [ex3_22]; rfl) (by decide) rfl (fun ls hl => ?_)
              refine lv_goto (tgt := 29) hx hb d_Mo_chordal_167 (by decide) ?_
              exact ih_29 _ hm _ _ _ _ _ rfl ls H locs (lv_sub hl [1, 2, 3, 0] rfl) hP hD hS
            · have hm := ite_f c_21 hm
              refine lv_iload_n hx hb d_Mo_chordal_134 rfl (lv_at hl 1 rfl) ?_
              refine lv_iconst (v := 1) hx hb d_Mo_chordal_135 (by decide) ?_
              refine lv_iload_n hx hb d_Mo_chordal_136 rfl (lv_at hl 3 rfl) ?_
              refine lv_ishl hx hb d_Mo_chordal_137 ?_
              refine lv_iconst (v := (-1)) hx hb d_Mo_chordal_138 (by decide) ?_
              refine lv_ixor hx hb d_Mo_chordal_139 ?_
              refine lv_iand hx hb d_Mo_chordal_140 ?_
              refine lv_topi (fun x1_23 ex1_23 => ?_)
              have hm := gB_at ex1_23 hm
              refine lv_istore_n (lv' := [(1, .int x1_23), (0, .ref a0), (2, .int x2_9), (3, .int x3_10), (4, .int x4_16), (5, .int x5_18), (6, .int x6_19)]) hx hb d_Mo_chordal_141 rfl hl (by decide) rfl (fun ls hl => ?_)
              refine lv_aload_n hx hb d_Mo_chordal_142 rfl (lv_at hl 1 rfl) ?_
              refine va_get (D := (dC, dI)) (ci := 8) (v := .ref a0_taken) (C := R_Mo) (T := T_Mo) (N := 28) hx hb htt hin_Mo hown hK hP 0 rfl rfl 12 (by decide) (htt _ kt_781) (fun _ h9 => h9) rfl d_Mo_chordal_143 ?_
              refine lv_aload_n hx hb d_Mo_chordal_146 rfl (lv_at hl 1 rfl) ?_
              refine va_get (D := (dC, dI)) (ci := 8) (v := .int v0_takenMany_11) (C := R_Mo) (T := T_Mo) (N := 28) hx hb htt hin_Mo hown hK hP 0 rfl rfl 11 (by decide) (htt _ kt_780) (fun _ h9 => h9) rfl d_Mo_chordal_147 ?_
              refine lv_iload_n hx hb d_Mo_chordal_150 rfl (lv_at hl 3 rfl) ?_
              obtain ⟨hi_24, hm⟩ := gC_e hm
              refine va_iast hx hb hK hP hD hS 2 0 rfl rfl (inb_vp hi_24) d_Mo_chordal_151 (fun H locs hP hD hS => ?_)
              have hP : va_P (dC, dI) vwCl (wd_Mo_chordal cI cJ cG cZ a0 a0_from a0_to a0_near a0_lists a0_colours a0_shades a0_tints a0_attempt a0_taken a0_isApart a0_ways a0_next a0_splits a0_powers a0_row a0_many a0_can a0_could a0_arcRow a0_order a0_isOut 0 v0_nodes v0_arcs v0_takenMany_11 v0_leftBits v0_hasPolynomial v0_hasLists w0_near (upd w0_taken_12 v0_takenMany_11.toNatClampNeg x3_10)) H := hP
              have hD : va_D A (wd_Mo_chordal cI cJ cG cZ a0 a0_from a0_to a0_near a0_lists a0_colours a0_shades a0_tints a0_attempt a0_taken a0_isApart a0_ways a0_next a0_splits a0_powers a0_row a0_many a0_can a0_could a0_arcRow a0_order a0_isOut 0 v0_nodes v0_arcs v0_takenMany_11 v0_leftBits v0_hasPolynomial v0_hasLists w0_near (upd w0_taken_12 v0_takenMany_11.toNatClampNeg x3_10)) := hD
              refine lv_aload_n hx hb d_Mo_chordal_152 rfl (lv_at hl 1 rfl) ?_
              refine lv_dup hx hb d_Mo_chordal_153 rfl ?_
              refine va_get (D := (dC, dI)) (ci := 8) (v := .int v0_takenMany_11) (C := R_Mo) (T := T_Mo) (N := 28) hx hb htt hin_Mo hown hK hP 0 rfl rfl 11 (by decide) (htt _ kt_780) (fun _ h9 => h9) rfl d_Mo_chordal_154 ?_
              refine lv_iconst (v := 1) hx hb d_Mo_chordal_157 (by decide) ?_
              refine lv_iadd hx hb d_Mo_chordal_158 ?_
              refine lv_topi (fun f_25 ef_25 => ?_)
              have hm := gB_at ef_25 hm
              refine va_put (D := (dC, dI)) (ci := 8) (v := .int f_25) (ty := .int) (C := R_Mo) (T := T_Mo) (N := 28) hx hb htt hin_Mo ty_Mo tyok_Mo nm_Mo hown hK hP hD hS 0 rfl rfl 11 (by decide) (htt _ kt_780) (fun _ h9 => h9) rfl (by decide +kernel) rfl rfl (Nat.le_of_ble_eq_true rfl) d_Mo_chordal_159 (fun H locs hP hD hS => ?_)
              have hP : va_P (dC, dI) vwCl (wd_Mo_chordal cI cJ cG cZ a0 a0_from a0_to a0_near a0_lists a0_colours a0_shades a0_tints a0_attempt a0_taken a0_isApart a0_ways a0_next a0_splits a0_powers a0_row a0_many a0_can a0_could a0_arcRow a0_order a0_isOut 0 v0_nodes v0_arcs f_25 v0_leftBits v0_hasPolynomial v0_hasLists w0_near (upd w0_taken_12 v0_takenMany_11.toNatClampNeg x3_10)) H := hP
              have hD : va_D A (wd_Mo_chordal cI cJ cG cZ a0 a0_from a0_to a0_near a0_lists a0_colours a0_shades a0_tints a0_attempt a0_taken a0_isApart a0_ways a0_next a0_splits a0_powers a0_row a0_many a0_can a0_could a0_arcRow a0_order a0_isOut 0 v0_nodes v0_arcs f_25 v0_leftBits v0_hasPolynomial v0_hasLists w0_near (upd w0_taken_12 v0_takenMany_11.toNatClampNeg x3_10)) := hD
              refine lv_iconst (v := 1) hx hb d_Mo_chordal_162 (by decide) ?_
              refine lv_istore_n (lv' := [(2, .int 1), (1, .int x1_23), (0, .ref a0), (3, .int x3_10), (4, .int x4_16), (5, .int x5_18), (6, .int x6_19)]) hx hb d_Mo_chordal_163 rfl hl (by decide) rfl (fun ls hl => ?_)
              obtain ⟨x3_26, ex3_26⟩ : ∃ y : Int32, y = x3_10 + 1 := ⟨_, rfl⟩
              have hm := gB_at ex3_26 hm
              refine lv_iinc (v := x3_26) (lv' := [(3, .int x3_26), (2, .int 1), (1, .int x1_23), (0, .ref a0), (4, .int x4_16), (5, .int x5_18), (6, .int x6_19)]) hx hb d_Mo_chordal_164 hl (k := 3) rfl (by rw [ex3_26]; rfl) (by decide) rfl (fun ls hl => ?_)
              refine lv_goto (tgt := 29) hx hb d_Mo_chordal_167 (by decide) ?_
              exact ih_29 _ hm _ _ _ _ _ rfl ls H locs (lv_sub hl [3, 2, 1, 0] rfl) hP hD hS
          · have hm := ite_f c_20 hm
            refine lv_iload hx hb d_Mo_chordal_79 (lv_at hl 5 rfl) ?_
            refine lv_if_eq (tgt := 120) hx hb d_Mo_chordal_81 (by decide) (fun c_27 => ?_) (fun c_27 => ?_)
            · have hm := ite_t c_27 hm
              refine lv_iconst (v := 0) hx hb d_Mo_chordal_120 (by decide) ?_
              refine lv_istore (lv' := [(5, .int 0), (0, .ref a0), (1, .int x1_8), (2, .int x2_9), (3, .int x3_10), (4, .int x4_16), (6, .int x6_19)]) hx hb d_Mo_chordal_121 hl (by decide) rfl (fun ls hl => ?_)
              obtain ⟨x6_28, ex6_28⟩ : ∃ y : Int32, y = x6_19 + 1 := ⟨_, rfl⟩
              have hm := gB_at ex6_28 hm
              refine lv_iinc (v := x6_28) (lv' := [(6, .int x6_28), (5, .int 0), (0, .ref a0), (1, .int x1_8), (2, .int x2_9), (3, .int x3_10), (4, .int x4_16)]) hx hb d_Mo_chordal_123 hl (k := 6) rfl (by rw [ex6_28]; rfl) (by decide) rfl (fun ls hl => ?_)
              refine lv_goto (tgt := 70) hx hb d_Mo_chordal_126 (by decide) ?_
              exact ih_70 _ hm _ _ rfl ls H locs (lv_sub hl [2, 3, 4, 5, 6, 1, 0] rfl) hP hD hS
            · have hm := ite_f c_27 hm
              refine lv_iload hx hb d_Mo_chordal_84 (lv_at hl 4 rfl) ?_
              refine lv_iload hx hb d_Mo_chordal_86 (lv_at hl 6 rfl) ?_
              refine lv_ishr hx hb d_Mo_chordal_88 ?_
              refine lv_iconst (v := 1) hx hb d_Mo_chordal_89 (by decide) ?_
              refine lv_iand hx hb d_Mo_chordal_90 ?_
              obtain ⟨J_116, hJ_116, hm⟩ := gB_x hm
              have jp_116 : ∀ (ls : Array Slot) (H : Heap) (locs : List Loc), J_116 = some (ret, o_v0_thrown, o_v0_takenMany, o_v0_leftBits, o_w0_taken) → lv_has ls 7 [(0, .ref a0), (1, .int x1_8), (2, .int x2_9), (3, .int x3_10), (4, .int x4_16), (6, .int x6_19)] → va_P (dC, dI) vwCl (wd_Mo_chordal cI cJ cG cZ a0 a0_from a0_to a0_near a0_lists a0_colours a0_shades a0_tints a0_attempt a0_taken a0_isApart a0_ways a0_next a0_splits a0_powers a0_row a0_many a0_can a0_could a0_arcRow a0_order a0_isOut 0 v0_nodes v0_arcs v0_takenMany_11 v0_leftBits v0_hasPolynomial v0_hasLists w0_near w0_taken_12) H → va_D A (wd_Mo_chordal cI cJ cG cZ a0 a0_from a0_to a0_near a0_lists a0_colours a0_shades a0_tints a0_attempt a0_taken a0_isApart a0_ways a0_next a0_splits a0_powers a0_row a0_many a0_can a0_could a0_arcRow a0_order a0_isOut 0 v0_nodes v0_arcs v0_takenMany_11 v0_leftBits v0_hasPolynomial v0_hasLists w0_near w0_taken_12) → va_S A s.heap H locs → W p l e (headSpec us_Mo_chordal rm_Mo_chordal).room s m ([.ref a0] : List Value).toArray below meth c H locs 0 0 (MQ below (va_Qi (fun (r : Int32) (_ : Unit) => ret = r) (fun _ t => PoS (dC, dI) (tyL cI cJ cG cZ) (wd_Mo_chordal cI cJ cG cZ a0 a0_from a0_to a0_near a0_lists a0_colours a0_shades a0_tints a0_attempt a0_taken a0_isApart a0_ways a0_next a0_splits a0_powers a0_row a0_many a0_can a0_could a0_arcRow a0_order a0_isOut o_v0_thrown v0_nodes v0_arcs o_v0_takenMany o_v0_leftBits v0_hasPolynomial v0_hasLists w0_near o_w0_taken) A t) A) ([.ref a0] : List Value).toArray s 0 0 A) (F0 m 116 ls []) := by
                intro ls H locs hm hl hP hD hS
                have hm := jn0 hJ_116 hm
                refine lv_iconst (v := 1) hx hb d_Mo_chordal_116 (by decide) ?_
                refine lv_goto (tgt := 121) hx hb d_Mo_chordal_117 (by decide) ?_
                refine lv_istore (lv' := [(5, .int 1), (0, .ref a0), (1, .int x1_8), (2, .int x2_9), (3, .int x3_10), (4, .int x4_16), (6, .int x6_19)]) hx hb d_Mo_chordal_121 hl (by decide) rfl (fun ls hl => ?_)
                obtain ⟨x6_29, ex6_29⟩ : ∃ y : Int32, y = x6_19 + 1 := ⟨_, rfl⟩
                have hm := gB_at ex6_29 hm
                refine lv_iinc (v := x6_29) (lv' := [(6, .int x6_29), (5, .int 1), (0, .ref a0), (1, .int x1_8), (2, .int x2_9), (3, .int x3_10), (4, .int x4_16)]) hx hb d_Mo_chordal_123 hl (k := 6) rfl (by rw [ex6_29]; rfl) (by decide) rfl (fun ls hl => ?_)
                refine lv_goto (tgt := 70) hx hb d_Mo_chordal_126 (by decide) ?_
                exact ih_70 _ hm _ _ rfl ls H locs (lv_sub hl [2, 3, 4, 5, 6, 1, 0] rfl) hP hD hS
              clear hJ_116
              refine lv_if_eq (tgt := 116) hx hb d_Mo_chordal_91 (by decide) (fun c_30 => ?_) (fun c_30 => ?_)
              · have hm := ite_t c_30 hm
                exact jp_116 ls H locs hm (lv_sub hl [0, 1, 2, 3, 4, 6] rfl) hP hD hS
              · have hm := ite_f c_30 hm
                refine lv_iload hx hb d_Mo_chordal_94 (lv_at hl 4 rfl) ?_
                refine lv_aload_n hx hb d_Mo_chordal_96 rfl (lv_at hl 0 rfl) ?_
                refine va_get (D := (dC, dI)) (ci := 8) (v := .ref a0_near) (C := R_Mo) (T := T_Mo) (N := 28) hx hb htt hin_Mo hown hK hP 0 rfl rfl 5 (by decide) (htt _ kt_774) (fun _ h9 => h9) rfl d_Mo_chordal_97 ?_
                refine lv_iload hx hb d_Mo_chordal_100 (lv_at hl 6 rfl) ?_
                obtain ⟨hi_31, hm⟩ := gC_e hm
                refine va_iald hx hb hK hP 1 0 rfl rfl (inb_vp hi_31) d_Mo_chordal_102 ?_
                refine lv_iconst (v := (-1)) hx hb d_Mo_chordal_103 (by decide) ?_
                refine lv_ixor hx hb d_Mo_chordal_104 ?_
                refine lv_iand hx hb d_Mo_chordal_105 ?_
                refine lv_iconst (v := 1) hx hb d_Mo_chordal_106 (by decide) ?_
                refine lv_iload hx hb d_Mo_chordal_107 (lv_at hl 6 rfl) ?_
                refine lv_ishl hx hb d_Mo_chordal_109 ?_
                refine lv_iconst (v := (-1)) hx hb d_Mo_chordal_110 (by decide) ?_
                refine lv_ixor hx hb d_Mo_chordal_111 ?_
                refine lv_iand hx hb d_Mo_chordal_112 ?_
                refine lv_if_ne (tgt := 120) hx hb d_Mo_chordal_113 (by decide) (fun c_32 => ?_) (fun c_32 => ?_)
                · have hm := ite_f c_32 hm
                  refine lv_iconst (v := 0) hx hb d_Mo_chordal_120 (by decide) ?_
                  refine lv_istore (lv' := [(5, .int 0), (0, .ref a0), (1, .int x1_8), (2, .int x2_9), (3, .int x3_10), (4, .int x4_16), (6, .int x6_19)]) hx hb d_Mo_chordal_121 hl (by decide) rfl (fun ls hl => ?_)
                  obtain ⟨x6_33, ex6_33⟩ : ∃ y : Int32, y = x6_19 + 1 := ⟨_, rfl⟩
                  have hm := gB_at ex6_33 hm
                  refine lv_iinc (v := x6_33) (lv' := [(6, .int x6_33), (5, .int 0), (0, .ref a0), (1, .int x1_8), (2, .int x2_9), (3, .int x3_10), (4, .int x4_16)]) hx hb d_Mo_chordal_123 hl (k := 6) rfl (by rw [ex6_33]; rfl) (by decide) rfl (fun ls hl => ?_)
                  refine lv_goto (tgt := 70) hx hb d_Mo_chordal_126 (by decide) ?_
                  exact ih_70 _ hm _ _ rfl ls H locs (lv_sub hl [2, 3, 4, 5, 6, 1, 0] rfl) hP hD hS
                · have hm := ite_t c_32 hm
                  exact jp_116 ls H locs hm (lv_sub hl [0, 1, 2, 3, 4, 6] rfl) hP hD hS
        clear hJ_65
        refine lv_icmp_ne (tgt := 64) hx hb d_Mo_chordal_57 (by decide) (fun c_34 => ?_) (fun c_34 => ?_)
        · have hm := ite_f c_34 hm
          refine lv_iconst (v := 0) hx hb d_Mo_chordal_64 (by decide) ?_
          exact jp_65 _ ls H locs hm (lv_sub hl [1, 2, 3, 4, 0] rfl) hP hD hS
        · have hm := ite_t c_34 hm
          refine lv_iconst (v := 1) hx hb d_Mo_chordal_60 (by decide) ?_
          refine lv_goto (tgt := 65) hx hb d_Mo_chordal_61 (by decide) ?_
          exact jp_65 _ ls H locs hm (lv_sub hl [1, 2, 3, 4, 0] rfl) hP hD hS
