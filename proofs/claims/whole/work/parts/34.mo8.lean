theorem d_Mo_parts_0 : decode prog_10_method_50_code 0 = .ok (.iconst 1, 1) := by decide +kernel
theorem d_Mo_parts_1 : decode prog_10_method_50_code 1 = .ok (.aload_n 0, 1) := by decide +kernel
theorem d_Mo_parts_2 : decode prog_10_method_50_code 2 = .ok (.getfield 86, 3) := by decide +kernel
theorem d_Mo_parts_5 : decode prog_10_method_50_code 5 = .ok (.ishl, 1) := by decide +kernel
theorem d_Mo_parts_6 : decode prog_10_method_50_code 6 = .ok (.iconst 1, 1) := by decide +kernel
theorem d_Mo_parts_7 : decode prog_10_method_50_code 7 = .ok (.isub, 1) := by decide +kernel
theorem d_Mo_parts_8 : decode prog_10_method_50_code 8 = .ok (.istore_n 1, 1) := by decide +kernel
theorem d_Mo_parts_9 : decode prog_10_method_50_code 9 = .ok (.iconst 0, 1) := by decide +kernel
theorem d_Mo_parts_10 : decode prog_10_method_50_code 10 = .ok (.istore_n 2, 1) := by decide +kernel
theorem d_Mo_parts_11 : decode prog_10_method_50_code 11 = .ok (.iload_n 1, 1) := by decide +kernel
theorem d_Mo_parts_12 : decode prog_10_method_50_code 12 = .ok (.ifCond .eq 88, 3) := by decide +kernel
theorem d_Mo_parts_15 : decode prog_10_method_50_code 15 = .ok (.iload_n 1, 1) := by decide +kernel
theorem d_Mo_parts_16 : decode prog_10_method_50_code 16 = .ok (.iload_n 1, 1) := by decide +kernel
theorem d_Mo_parts_17 : decode prog_10_method_50_code 17 = .ok (.ineg, 1) := by decide +kernel
theorem d_Mo_parts_18 : decode prog_10_method_50_code 18 = .ok (.iand, 1) := by decide +kernel
theorem d_Mo_parts_19 : decode prog_10_method_50_code 19 = .ok (.istore_n 3, 1) := by decide +kernel
theorem d_Mo_parts_20 : decode prog_10_method_50_code 20 = .ok (.iconst 1, 1) := by decide +kernel
theorem d_Mo_parts_21 : decode prog_10_method_50_code 21 = .ok (.istore 4, 2) := by decide +kernel
theorem d_Mo_parts_23 : decode prog_10_method_50_code 23 = .ok (.iload 4, 2) := by decide +kernel
theorem d_Mo_parts_25 : decode prog_10_method_50_code 25 = .ok (.ifCond .eq 63, 3) := by decide +kernel
theorem d_Mo_parts_28 : decode prog_10_method_50_code 28 = .ok (.iload_n 3, 1) := by decide +kernel
theorem d_Mo_parts_29 : decode prog_10_method_50_code 29 = .ok (.istore 5, 2) := by decide +kernel
theorem d_Mo_parts_31 : decode prog_10_method_50_code 31 = .ok (.iconst 0, 1) := by decide +kernel
theorem d_Mo_parts_32 : decode prog_10_method_50_code 32 = .ok (.istore 6, 2) := by decide +kernel
theorem d_Mo_parts_34 : decode prog_10_method_50_code 34 = .ok (.iload 6, 2) := by decide +kernel
theorem d_Mo_parts_36 : decode prog_10_method_50_code 36 = .ok (.aload_n 0, 1) := by decide +kernel
theorem d_Mo_parts_37 : decode prog_10_method_50_code 37 = .ok (.getfield 86, 3) := by decide +kernel
theorem d_Mo_parts_40 : decode prog_10_method_50_code 40 = .ok (.if_icmp .ge 32, 3) := by decide +kernel
theorem d_Mo_parts_43 : decode prog_10_method_50_code 43 = .ok (.iload_n 3, 1) := by decide +kernel
theorem d_Mo_parts_44 : decode prog_10_method_50_code 44 = .ok (.aload_n 0, 1) := by decide +kernel
theorem d_Mo_parts_45 : decode prog_10_method_50_code 45 = .ok (.getfield 16, 3) := by decide +kernel
theorem d_Mo_parts_48 : decode prog_10_method_50_code 48 = .ok (.iload 6, 2) := by decide +kernel
theorem d_Mo_parts_50 : decode prog_10_method_50_code 50 = .ok (.iaload, 1) := by decide +kernel
theorem d_Mo_parts_51 : decode prog_10_method_50_code 51 = .ok (.iload_n 3, 1) := by decide +kernel
theorem d_Mo_parts_52 : decode prog_10_method_50_code 52 = .ok (.iand, 1) := by decide +kernel
theorem d_Mo_parts_53 : decode prog_10_method_50_code 53 = .ok (.ifCond .eq 10, 3) := by decide +kernel
theorem d_Mo_parts_56 : decode prog_10_method_50_code 56 = .ok (.iconst 1, 1) := by decide +kernel
theorem d_Mo_parts_57 : decode prog_10_method_50_code 57 = .ok (.iload 6, 2) := by decide +kernel
theorem d_Mo_parts_59 : decode prog_10_method_50_code 59 = .ok (.ishl, 1) := by decide +kernel
theorem d_Mo_parts_60 : decode prog_10_method_50_code 60 = .ok (.goto 4, 3) := by decide +kernel
theorem d_Mo_parts_63 : decode prog_10_method_50_code 63 = .ok (.iconst 0, 1) := by decide +kernel
theorem d_Mo_parts_64 : decode prog_10_method_50_code 64 = .ok (.ior, 1) := by decide +kernel
theorem d_Mo_parts_65 : decode prog_10_method_50_code 65 = .ok (.istore_n 3, 1) := by decide +kernel
theorem d_Mo_parts_66 : decode prog_10_method_50_code 66 = .ok (.iinc 6 1, 3) := by decide +kernel
theorem d_Mo_parts_69 : decode prog_10_method_50_code 69 = .ok (.goto (-35), 3) := by decide +kernel
theorem d_Mo_parts_72 : decode prog_10_method_50_code 72 = .ok (.iload_n 3, 1) := by decide +kernel
theorem d_Mo_parts_73 : decode prog_10_method_50_code 73 = .ok (.iload 5, 2) := by decide +kernel
theorem d_Mo_parts_75 : decode prog_10_method_50_code 75 = .ok (.if_icmp .eq 7, 3) := by decide +kernel
theorem d_Mo_parts_78 : decode prog_10_method_50_code 78 = .ok (.iconst 1, 1) := by decide +kernel
theorem d_Mo_parts_79 : decode prog_10_method_50_code 79 = .ok (.goto 4, 3) := by decide +kernel
theorem d_Mo_parts_82 : decode prog_10_method_50_code 82 = .ok (.iconst 0, 1) := by decide +kernel
theorem d_Mo_parts_83 : decode prog_10_method_50_code 83 = .ok (.istore 4, 2) := by decide +kernel
theorem d_Mo_parts_85 : decode prog_10_method_50_code 85 = .ok (.goto (-62), 3) := by decide +kernel
theorem d_Mo_parts_88 : decode prog_10_method_50_code 88 = .ok (.iload_n 1, 1) := by decide +kernel
theorem d_Mo_parts_89 : decode prog_10_method_50_code 89 = .ok (.iload_n 3, 1) := by decide +kernel
theorem d_Mo_parts_90 : decode prog_10_method_50_code 90 = .ok (.iconst (-1), 1) := by decide +kernel
theorem d_Mo_parts_91 : decode prog_10_method_50_code 91 = .ok (.ixor, 1) := by decide +kernel
theorem d_Mo_parts_92 : decode prog_10_method_50_code 92 = .ok (.iand, 1) := by decide +kernel
theorem d_Mo_parts_93 : decode prog_10_method_50_code 93 = .ok (.istore_n 1, 1) := by decide +kernel
theorem d_Mo_parts_94 : decode prog_10_method_50_code 94 = .ok (.iinc 2 1, 3) := by decide +kernel
theorem d_Mo_parts_97 : decode prog_10_method_50_code 97 = .ok (.goto (-86), 3) := by decide +kernel
theorem d_Mo_parts_100 : decode prog_10_method_50_code 100 = .ok (.iload_n 2, 1) := by decide +kernel
theorem d_Mo_parts_101 : decode prog_10_method_50_code 101 = .ok (.ireturn, 1) := by decide +kernel
abbrev wd_Mo_parts (cI cJ cG cZ : ClassId) (a0 a0_from a0_to a0_near a0_lists a0_colours a0_shades a0_tints a0_attempt a0_taken a0_isApart a0_ways a0_next a0_splits a0_powers a0_row a0_many a0_can a0_could a0_arcRow a0_order a0_isOut : Nat) (v0_thrown : Int32) (v0_nodes : Int32) (v0_arcs : Int32) (v0_takenMany : Int32) (v0_leftBits : Int32) (v0_hasPolynomial : Int32) (v0_hasLists : Int32) (w0_near : Nat → Int32) : va_W := [(a0, .inr (8, [.int v0_thrown, .int v0_nodes, .int v0_arcs, .ref a0_from, .ref a0_to, .ref a0_near, .ref a0_lists, .ref a0_colours, .ref a0_shades, .ref a0_tints, .ref a0_attempt, .int v0_takenMany, .ref a0_taken, .int v0_leftBits, .ref a0_isApart, .ref a0_ways, .ref a0_next, .ref a0_splits, .ref a0_powers, .ref a0_row, .ref a0_many, .int v0_hasPolynomial, .int v0_hasLists, .ref a0_can, .ref a0_could, .ref a0_arcRow, .ref a0_order, .ref a0_isOut])), (a0_near, .inl (cI, 12, .inl w0_near))]
abbrev us_Mo_parts : List Cond := .code y_Mo_parts prog_10_method_50_code 7 (some .int) :: gtbl
abbrev rm_Mo_parts : Room := { frames := 0, cells := 0, slots := 0, locals := 0 }
def m_Mo_parts (F : Nat) (v0_thrown : Int32) (v0_nodes : Int32) (v0_arcs : Int32) (v0_takenMany : Int32) (v0_leftBits : Int32) (v0_hasPolynomial : Int32) (v0_hasLists : Int32) (w0_near : Nat → Int32) : Option (Int32) :=
  gB (((1 : Int32) <<< (v0_nodes &&& 31)) - 1) (fun x1_1 =>
  gL (fun (k_11 : (Int32 × Int32) → Option (Int32)) (z_11 : Int32 × Int32) => match z_11 with
  | (x1_2, x2_3) =>
  if x1_2 = 0 then (
    some x2_3
  ) else (
    gB (x1_2 &&& (-x1_2)) (fun x3_5 =>
    gL (fun (k_23 : (Int32 × Int32) → Option (Int32)) (z_23 : Int32 × Int32) => match z_23 with
    | (x3_6, x4_7) =>
    if x4_7 = 0 then (
      gB (x1_2 &&& (x3_6 ^^^ (-1))) (fun x1_9 =>
      gB (x2_3 + 1) (fun x2_10 =>
      k_11 (x1_9, x2_10)))
    ) else (
      gL (fun (k_34 : (Int32 × Int32) → Option (Int32)) (z_34 : Int32 × Int32) => match z_34 with
      | (x3_11, x6_12) =>
      if v0_nodes ≤ x6_12 then (
        if x3_11 = x3_6 then (
          k_23 (x3_11, 0)
        ) else (
          k_23 (x3_11, 1)
        )
      ) else (
        gC (inb x6_12 12) (
        if ((w0_near x6_12.toNatClampNeg) &&& x3_11) = 0 then (
          gB (x3_11 ||| 0) (fun x3_17 =>
          gB (x6_12 + 1) (fun x6_18 =>
          k_34 (x3_17, x6_18)))
        ) else (
          gB (x3_11 ||| ((1 : Int32) <<< (x6_12 &&& 31))) (fun x3_19 =>
          gB (x6_12 + 1) (fun x6_20 =>
          k_34 (x3_19, x6_20)))
        ))
      )
      ) F (x3_6, 0)
    )
    ) F (x3_5, 1))
  )
  ) F (x1_1, 0))
set_option maxHeartbeats 4000000 in
set_option maxRecDepth 100000 in
theorem c_Mo_parts (l : Launch) (dC : Nat → ClassId) (dI : Nat → Nat → Nat) (cI cJ cG cZ : ClassId) (a0 a0_from a0_to a0_near a0_lists a0_colours a0_shades a0_tints a0_attempt a0_taken a0_isApart a0_ways a0_next a0_splits a0_powers a0_row a0_many a0_can a0_could a0_arcRow a0_order a0_isOut : Nat) (sz : Nat) (F : Nat) (v0_thrown : Int32) (v0_nodes : Int32) (v0_arcs : Int32) (v0_takenMany : Int32) (v0_leftBits : Int32) (v0_hasPolynomial : Int32) (v0_hasLists : Int32) (w0_near : Nat → Int32) (ret : Int32) (hm : m_Mo_parts F v0_thrown v0_nodes v0_arcs v0_takenMany v0_leftBits v0_hasPolynomial v0_hasLists w0_near = some ret) : Met l y_Mo_parts us_Mo_parts rm_Mo_parts (PcS (dC, dI) (tyL cI cJ cG cZ) [.ref a0] sz (wd_Mo_parts cI cJ cG cZ a0 a0_from a0_to a0_near a0_lists a0_colours a0_shades a0_tints a0_attempt a0_taken a0_isApart a0_ways a0_next a0_splits a0_powers a0_row a0_many a0_can a0_could a0_arcRow a0_order a0_isOut v0_thrown v0_nodes v0_arcs v0_takenMany v0_leftBits v0_hasPolynomial v0_hasLists w0_near)) (va_Qi (fun (r : Int32) (_ : Unit) => ret = r) (fun _ t => PoS (dC, dI) (tyL cI cJ cG cZ) (wd_Mo_parts cI cJ cG cZ a0 a0_from a0_to a0_near a0_lists a0_colours a0_shades a0_tints a0_attempt a0_taken a0_isApart a0_ways a0_next a0_splits a0_powers a0_row a0_many a0_can a0_could a0_arcRow a0_order a0_isOut v0_thrown v0_nodes v0_arcs v0_takenMany v0_leftBits v0_hasPolynomial v0_hasLists w0_near) (va_A (wd_Mo_parts cI cJ cG cZ a0 a0_from a0_to a0_near a0_lists a0_colours a0_shades a0_tints a0_attempt a0_taken a0_isApart a0_ways a0_next a0_splits a0_powers a0_row a0_many a0_can a0_could a0_arcRow a0_order a0_isOut v0_thrown v0_nodes v0_arcs v0_takenMany v0_leftBits v0_hasPolynomial v0_hasLists w0_near) sz) t) (va_A (wd_Mo_parts cI cJ cG cZ a0 a0_from a0_to a0_near a0_lists a0_colours a0_shades a0_tints a0_attempt a0_taken a0_isApart a0_ways a0_next a0_splits a0_powers a0_row a0_many a0_can a0_could a0_arcRow a0_order a0_isOut v0_thrown v0_nodes v0_arcs v0_takenMany v0_leftBits v0_hasPolynomial v0_hasLists w0_near) sz)) 0 0 (va_A (wd_Mo_parts cI cJ cG cZ a0 a0_from a0_to a0_near a0_lists a0_colours a0_shades a0_tints a0_attempt a0_taken a0_isApart a0_ways a0_next a0_splits a0_powers a0_row a0_many a0_can a0_could a0_arcRow a0_order a0_isOut v0_thrown v0_nodes v0_arcs v0_takenMany v0_leftBits v0_hasPolynomial v0_hasLists w0_near) sz) := by
  refine Met.ofW (cc := prog_10_method_50_code) (maxL := 7) (ret := (some .int)) (by decide) rfl ?_
  intro p e s m args below meth c s₁ B hml hv
  obtain ⟨rfl, hsz, hP, hK, hD0, hNw⟩ := hv
  have hx := B.exec
  have hb := B.bytes
  have hr := B.returns
  have htt : ∀ w ∈ gtbl, w.before _ s = true := fun w h => atoms_spec (ws := us_Mo_parts) B.pre w (List.mem_cons_of_mem _ h)
  have hown : s.vm.findClass R_Mo = some m.cls := findClass_of_methodNamed B.named
  have hlocks := B.notSynchronized
  subst hsz
  have hD := hD0.self (sz := s.heap.size)
  generalize hAe : va_A (wd_Mo_parts cI cJ cG cZ a0 a0_from a0_to a0_near a0_lists a0_colours a0_shades a0_tints a0_attempt a0_taken a0_isApart a0_ways a0_next a0_splits a0_powers a0_row a0_many a0_can a0_could a0_arcRow a0_order a0_isOut v0_thrown v0_nodes v0_arcs v0_takenMany v0_leftBits v0_hasPolynomial v0_hasLists w0_near) s.heap.size = A at hD ⊢
  have hA : ∀ q : Nat, s.heap.size ≤ q → A q := fun q h => by rw [← hAe]; exact Or.inr h
  clear hAe hD0
  have hS : va_S A s.heap s.heap [] := va_S.rf
  have hl := lv_entry ([.ref a0]) (n := 7) (Nat.le_of_ble_eq_true rfl)
  rw [lg_entry_eq]
  generalize (lg_sl ([.ref a0]) ++ List.replicate (7 - (lg_sl ([.ref a0])).length) Slot.unset).toArray = ls at hl ⊢
  have hl : lv_has ls 7 [(0, .ref a0)] := hl
  generalize hH : s.heap = H at hP ⊢
  have hS : va_S A s.heap H [] := hH ▸ hS
  generalize hLo : ([] : List Loc) = locs at hS ⊢
  clear hH hLo
  unfold m_Mo_parts at hm
  refine lv_iconst (v := 1) hx hb d_Mo_parts_0 (by decide) ?_
  refine lv_aload_n hx hb d_Mo_parts_1 rfl (lv_at hl 0 rfl) ?_
  refine va_get (D := (dC, dI)) (ci := 8) (v := .int v0_nodes) (C := R_Mo) (T := T_Mo) (N := 28) hx hb htt hin_Mo hown hK hP 0 rfl rfl 1 (by decide) (htt _ kt_770) (fun _ h9 => h9) rfl d_Mo_parts_2 ?_
  refine lv_ishl hx hb d_Mo_parts_5 ?_
  refine lv_iconst (v := 1) hx hb d_Mo_parts_6 (by decide) ?_
  refine lv_isub hx hb d_Mo_parts_7 ?_
  refine lv_topi (fun x1_1 ex1_1 => ?_)
  have hm := gB_at ex1_1 hm
  refine lv_istore_n (lv' := [(1, .int x1_1), (0, .ref a0)]) hx hb d_Mo_parts_8 rfl hl (by decide) rfl (fun ls hl => ?_)
  refine lv_iconst (v := 0) hx hb d_Mo_parts_9 (by decide) ?_
  refine lv_istore_n (lv' := [(2, .int 0), (1, .int x1_1), (0, .ref a0)]) hx hb d_Mo_parts_10 rfl hl (by decide) rfl (fun ls hl => ?_)
  refine gL_e (P := (fun (z_11 : Int32 × Int32) => ∀ (x1_2 : Int32), ∀ (x2_3 : Int32), z_11 = (x1_2, x2_3) → ∀ (ls : Array Slot) (H : Heap) (locs : List Loc), lv_has ls 7 [(0, .ref a0), (1, .int x1_2), (2, .int x2_3)] → va_P (dC, dI) vwCl (wd_Mo_parts cI cJ cG cZ a0 a0_from a0_to a0_near a0_lists a0_colours a0_shades a0_tints a0_attempt a0_taken a0_isApart a0_ways a0_next a0_splits a0_powers a0_row a0_many a0_can a0_could a0_arcRow a0_order a0_isOut v0_thrown v0_nodes v0_arcs v0_takenMany v0_leftBits v0_hasPolynomial v0_hasLists w0_near) H → va_D A (wd_Mo_parts cI cJ cG cZ a0 a0_from a0_to a0_near a0_lists a0_colours a0_shades a0_tints a0_attempt a0_taken a0_isApart a0_ways a0_next a0_splits a0_powers a0_row a0_many a0_can a0_could a0_arcRow a0_order a0_isOut v0_thrown v0_nodes v0_arcs v0_takenMany v0_leftBits v0_hasPolynomial v0_hasLists w0_near) → va_S A s.heap H locs → W p l e (headSpec us_Mo_parts rm_Mo_parts).room s m ([.ref a0] : List Value).toArray below meth c H locs 0 0 (MQ below (va_Qi (fun (r : Int32) (_ : Unit) => ret = r) (fun _ t => PoS (dC, dI) (tyL cI cJ cG cZ) (wd_Mo_parts cI cJ cG cZ a0 a0_from a0_to a0_near a0_lists a0_colours a0_shades a0_tints a0_attempt a0_taken a0_isApart a0_ways a0_next a0_splits a0_powers a0_row a0_many a0_can a0_could a0_arcRow a0_order a0_isOut v0_thrown v0_nodes v0_arcs v0_takenMany v0_leftBits v0_hasPolynomial v0_hasLists w0_near) A t) A) ([.ref a0] : List Value).toArray s 0 0 A) (F0 m 11 ls []))) hm (fun k_11 z_11 ih_11 hm => ?_) _ _ rfl ls H locs (lv_sub hl [2, 1, 0] rfl) hP hD hS
  intro x1_2 x2_3 hz ls H locs hl hP hD hS
  subst hz
  dsimp only at hm
  refine lv_iload_n hx hb d_Mo_parts_11 rfl (lv_at hl 1 rfl) ?_
  refine lv_if_eq (tgt := 100) hx hb d_Mo_parts_12 (by decide) (fun c_4 => ?_) (fun c_4 => ?_)
  · have hm := ite_t c_4 hm
    refine lv_iload_n hx hb d_Mo_parts_100 rfl (lv_at hl 2 rfl) ?_
    cases hm
    exact W.iret hx hb hr (fun t ht hW => ⟨⟨_, (), rfl, rfl, by rw [ht]; exact hP, va_K.moved hW.alike hK, hD⟩, hS.F ht⟩) hS.2.2 d_Mo_parts_101
  · have hm := ite_f c_4 hm
    refine lv_iload_n hx hb d_Mo_parts_15 rfl (lv_at hl 1 rfl) ?_
    refine lv_iload_n hx hb d_Mo_parts_16 rfl (lv_at hl 1 rfl) ?_
    refine lv_ineg hx hb d_Mo_parts_17 ?_
    refine lv_iand hx hb d_Mo_parts_18 ?_
    refine lv_topi (fun x3_5 ex3_5 => ?_)
    have hm := gB_at ex3_5 hm
    refine lv_istore_n (lv' := [(3, .int x3_5), (0, .ref a0), (1, .int x1_2), (2, .int x2_3)]) hx hb d_Mo_parts_19 rfl hl (by decide) rfl (fun ls hl => ?_)
    refine lv_iconst (v := 1) hx hb d_Mo_parts_20 (by decide) ?_
    refine lv_istore (lv' := [(4, .int 1), (3, .int x3_5), (0, .ref a0), (1, .int x1_2), (2, .int x2_3)]) hx hb d_Mo_parts_21 hl (by decide) rfl (fun ls hl => ?_)
    refine gL_e (P := (fun (z_23 : Int32 × Int32) => ∀ (x3_6 : Int32), ∀ (x4_7 : Int32), z_23 = (x3_6, x4_7) → ∀ (ls : Array Slot) (H : Heap) (locs : List Loc), lv_has ls 7 [(0, .ref a0), (1, .int x1_2), (2, .int x2_3), (3, .int x3_6), (4, .int x4_7)] → va_P (dC, dI) vwCl (wd_Mo_parts cI cJ cG cZ a0 a0_from a0_to a0_near a0_lists a0_colours a0_shades a0_tints a0_attempt a0_taken a0_isApart a0_ways a0_next a0_splits a0_powers a0_row a0_many a0_can a0_could a0_arcRow a0_order a0_isOut v0_thrown v0_nodes v0_arcs v0_takenMany v0_leftBits v0_hasPolynomial v0_hasLists w0_near) H → va_D A (wd_Mo_parts cI cJ cG cZ a0 a0_from a0_to a0_near a0_lists a0_colours a0_shades a0_tints a0_attempt a0_taken a0_isApart a0_ways a0_next a0_splits a0_powers a0_row a0_many a0_can a0_could a0_arcRow a0_order a0_isOut v0_thrown v0_nodes v0_arcs v0_takenMany v0_leftBits v0_hasPolynomial v0_hasLists w0_near) → va_S A s.heap H locs → W p l e (headSpec us_Mo_parts rm_Mo_parts).room s m ([.ref a0] : List Value).toArray below meth c H locs 0 0 (MQ below (va_Qi (fun (r : Int32) (_ : Unit) => ret = r) (fun _ t => PoS (dC, dI) (tyL cI cJ cG cZ) (wd_Mo_parts cI cJ cG cZ a0 a0_from a0_to a0_near a0_lists a0_colours a0_shades a0_tints a0_attempt a0_taken a0_isApart a0_ways a0_next a0_splits a0_powers a0_row a0_many a0_can a0_could a0_arcRow a0_order a0_isOut v0_thrown v0_nodes v0_arcs v0_takenMany v0_leftBits v0_hasPolynomial v0_hasLists w0_near) A t) A) ([.ref a0] : List Value).toArray s 0 0 A) (F0 m 23 ls []))) hm (fun k_23 z_23 ih_23 hm => ?_) _ _ rfl ls H locs (lv_sub hl [2, 3, 4, 1, 0] rfl) hP hD hS
    intro x3_6 x4_7 hz ls H locs hl hP hD hS
    subst hz
    dsimp only at hm
    refine lv_iload hx hb d_Mo_parts_23 (lv_at hl 4 rfl) ?_
    refine lv_if_eq (tgt := 88) hx hb d_Mo_parts_25 (by decide) (fun c_8 => ?_) (fun c_8 => ?_)
    · have hm := ite_t c_8 hm
      refine lv_iload_n hx hb d_Mo_parts_88 rfl (lv_at hl 1 rfl) ?_
      refine lv_iload_n hx hb d_Mo_parts_89 rfl (lv_at hl 3 rfl) ?_
      refine lv_iconst (v := (-1)) hx hb d_Mo_parts_90 (by decide) ?_
      refine lv_ixor hx hb d_Mo_parts_91 ?_
      refine lv_iand hx hb d_Mo_parts_92 ?_
      refine lv_topi (fun x1_9 ex1_9 => ?_)
      have hm := gB_at ex1_9 hm
      refine lv_istore_n (lv' := [(1, .int x1_9), (0, .ref a0), (2, .int x2_3), (3, .int x3_6), (4, .int x4_7)]) hx hb d_Mo_parts_93 rfl hl (by decide) rfl (fun ls hl => ?_)
      obtain ⟨x2_10, ex2_10⟩ : ∃ y : Int32, y = x2_3 + 1 := ⟨_, rfl⟩
      have hm := gB_at ex2_10 hm
      refine lv_iinc (v := x2_10) (lv' := [(2, .int x2_10), (1, .int x1_9), (0, .ref a0), (3, .int x3_6), (4, .int x4_7)]) hx hb d_Mo_parts_94 hl (k := 2) rfl (by rw [ex2_10]; rfl) (by decide) rfl (fun ls hl => ?_)
      refine lv_goto (tgt := 11) hx hb d_Mo_parts_97 (by decide) ?_
      exact ih_11 _ hm _ _ rfl ls H locs (lv_sub hl [2, 1, 0] rfl) hP hD hS
    · have hm := ite_f c_8 hm
      refine lv_iload_n hx hb d_Mo_parts_28 rfl (lv_at hl 3 rfl) ?_
      refine lv_istore (lv' := [(5, .int x3_6), (0, .ref a0), (1, .int x1_2), (2, .int x2_3), (3, .int x3_6), (4, .int x4_7)]) hx hb d_Mo_parts_29 hl (by decide) rfl (fun ls hl => ?_)
      refine lv_iconst (v := 0) hx hb d_Mo_parts_31 (by decide) ?_
      refine lv_istore (lv' := [(6, .int 0), (5, .int x3_6), (0, .ref a0), (1, .int x1_2), (2, .int x2_3), (3, .int x3_6), (4, .int x4_7)]) hx hb d_Mo_parts_32 hl (by decide) rfl (fun ls hl => ?_)
      refine gL_e (P := (fun (z_34 : Int32 × Int32) => ∀ (x3_11 : Int32), ∀ (x6_12 : Int32), z_34 = (x3_11, x6_12) → ∀ (ls : Array Slot) (H : Heap) (locs : List Loc), lv_has ls 7 [(0, .ref a0), (1, .int x1_2), (2, .int x2_3), (3, .int x3_11), (5, .int x3_6), (6, .int x6_12)] → va_P (dC, dI) vwCl (wd_Mo_parts cI cJ cG cZ a0 a0_from a0_to a0_near a0_lists a0_colours a0_shades a0_tints a0_attempt a0_taken a0_isApart a0_ways a0_next a0_splits a0_powers a0_row a0_many a0_can a0_could a0_arcRow a0_order a0_isOut v0_thrown v0_nodes v0_arcs v0_takenMany v0_leftBits v0_hasPolynomial v0_hasLists w0_near) H → va_D A (wd_Mo_parts cI cJ cG cZ a0 a0_from a0_to a0_near a0_lists a0_colours a0_shades a0_tints a0_attempt a0_taken a0_isApart a0_ways a0_next a0_splits a0_powers a0_row a0_many a0_can a0_could a0_arcRow a0_order a0_isOut v0_thrown v0_nodes v0_arcs v0_takenMany v0_leftBits v0_hasPolynomial v0_hasLists w0_near) → va_S A s.heap H locs → W p l e (headSpec us_Mo_parts rm_Mo_parts).room s m ([.ref a0] : List Value).toArray below meth c H locs 0 0 (MQ below (va_Qi (fun (r : Int32) (_ : Unit) => ret = r) (fun _ t => PoS (dC, dI) (tyL cI cJ cG cZ) (wd_Mo_parts cI cJ cG cZ a0 a0_from a0_to a0_near a0_lists a0_colours a0_shades a0_tints a0_attempt a0_taken a0_isApart a0_ways a0_next a0_splits a0_powers a0_row a0_many a0_can a0_could a0_arcRow a0_order a0_isOut v0_thrown v0_nodes v0_arcs v0_takenMany v0_leftBits v0_hasPolynomial v0_hasLists w0_near) A t) A) ([.ref a0] : List Value).toArray s 0 0 A) (F0 m 34 ls []))) hm (fun k_34 z_34 ih_34 hm => ?_) _ _ rfl ls H locs (lv_sub hl [2, 3, 4, 5, 1, 0] rfl) hP hD hS
      intro x3_11 x6_12 hz ls H locs hl hP hD hS
      subst hz
      dsimp only at hm
      refine lv_iload hx hb d_Mo_parts_34 (lv_at hl 5 rfl) ?_
      refine lv_aload_n hx hb d_Mo_parts_36 rfl (lv_at hl 0 rfl) ?_
      refine va_get (D := (dC, dI)) (ci := 8) (v := .int v0_nodes) (C := R_Mo) (T := T_Mo) (N := 28) hx hb htt hin_Mo hown hK hP 0 rfl rfl 1 (by decide) (htt _ kt_770) (fun _ h9 => h9) rfl d_Mo_parts_37 ?_
      refine lv_icmp_ge (tgt := 72) hx hb d_Mo_parts_40 (by decide) (fun c_13 => ?_) (fun c_13 => ?_)
      · have hm := ite_t c_13 hm
        refine lv_iload_n hx hb d_Mo_parts_72 rfl (lv_at hl 3 rfl) ?_
        refine lv_iload hx hb d_Mo_parts_73 (lv_at hl 4 rfl) ?_
        refine lv_icmp_eq (tgt := 82) hx hb d_Mo_parts_75 (by decide) (fun c_14 => ?_) (fun c_14 => ?_)
        · have hm := ite_t c_14 hm
          refine lv_iconst (v := 0) hx hb d_Mo_parts_82 (by decide) ?_
          refine lv_istore (lv' := [(4, .int 0), (0, .ref a0), (1, .int x1_2), (2, .int x2_3), (3, .int x3_11), (5, .int x3_6), (6, .int x6_12)]) hx hb d_Mo_parts_83 hl (by decide) rfl (fun ls hl => ?_)
          refine lv_goto (tgt := 23) hx hb d_Mo_parts_85 (by decide) ?_
          exact ih_23 _ hm _ _ rfl ls H locs (lv_sub hl [1, 2, 3, 4, 0] rfl) hP hD hS
        · have hm := ite_f c_14 hm
          refine lv_iconst (v := 1) hx hb d_Mo_parts_78 (by decide) ?_
          refine lv_goto (tgt := 83) hx hb d_Mo_parts_79 (by decide) ?_
          refine lv_istore (lv' := [(4, .int 1), (0, .ref a0), (1, .int x1_2), (2, .int x2_3), (3, .int x3_11), (5, .int x3_6), (6, .int x6_12)]) hx hb d_Mo_parts_83 hl (by decide) rfl (fun ls hl => ?_)
          refine lv_goto (tgt := 23) hx hb d_Mo_parts_85 (by decide) ?_
          exact ih_23 _ hm _ _ rfl ls H locs (lv_sub hl [1, 2, 3, 4, 0] rfl) hP hD hS
      · have hm := ite_f c_13 hm
        refine lv_iload_n hx hb d_Mo_parts_43 rfl (lv_at hl 3 rfl) ?_
        refine lv_aload_n hx hb d_Mo_parts_44 rfl (lv_at hl 0 rfl) ?_
        refine va_get (D := (dC, dI)) (ci := 8) (v := .ref a0_near) (C := R_Mo) (T := T_Mo) (N := 28) hx hb htt hin_Mo hown hK hP 0 rfl rfl 5 (by decide) (htt _ kt_774) (fun _ h9 => h9) rfl d_Mo_parts_45 ?_
        refine lv_iload hx hb d_Mo_parts_48 (lv_at hl 5 rfl) ?_
        obtain ⟨hi_15, hm⟩ := gC_e hm
        refine va_iald hx hb hK hP 1 0 rfl rfl (inb_vp hi_15) d_Mo_parts_50 ?_
        refine lv_iload_n hx hb d_Mo_parts_51 rfl (lv_at hl 3 rfl) ?_
        refine lv_iand hx hb d_Mo_parts_52 ?_
        refine lv_if_eq (tgt := 63) hx hb d_Mo_parts_53 (by decide) (fun c_16 => ?_) (fun c_16 => ?_)
        · have hm := ite_t c_16 hm
          refine lv_iconst (v := 0) hx hb d_Mo_parts_63 (by decide) ?_
          refine lv_ior hx hb d_Mo_parts_64 ?_
          refine lv_topi (fun x3_17 ex3_17 => ?_)
          have hm := gB_at ex3_17 hm
          refine lv_istore_n (lv' := [(3, .int x3_17), (0, .ref a0), (1, .int x1_2), (2, .int x2_3), (5, .int x3_6), (6, .int x6_12)]) hx hb d_Mo_parts_65 rfl hl (by decide) rfl (fun ls hl => ?_)
          obtain ⟨x6_18, ex6_18⟩ : ∃ y : Int32, y = x6_12 + 1 := ⟨_, rfl⟩
          have hm := gB_at ex6_18 hm
          refine lv_iinc (v := x6_18) (lv' := [(6, .int x6_18), (3, .int x3_17), (0, .ref a0), (1, .int x1_2), (2, .int x2_3), (5, .int x3_6)]) hx hb d_Mo_parts_66 hl (k := 5) rfl (by rw [ex6_18]; rfl) (by decide) rfl (fun ls hl => ?_)
          refine lv_goto (tgt := 34) hx hb d_Mo_parts_69 (by decide) ?_
          exact ih_34 _ hm _ _ rfl ls H locs (lv_sub hl [2, 3, 4, 1, 5, 0] rfl) hP hD hS
        · have hm := ite_f c_16 hm
          refine lv_iconst (v := 1) hx hb d_Mo_parts_56 (by decide) ?_
          refine lv_iload hx hb d_Mo_parts_57 (lv_at hl 5 rfl) ?_
          refine lv_ishl hx hb d_Mo_parts_59 ?_
          refine lv_goto (tgt := 64) hx hb d_Mo_parts_60 (by decide) ?_
          refine lv_ior hx hb d_Mo_parts_64 ?_
          refine lv_topi (fun x3_19 ex3_19 => ?_)
          have hm := gB_at ex3_19 hm
          refine lv_istore_n (lv' := [(3, .int x3_19), (0, .ref a0), (1, .int x1_2), (2, .int x2_3), (5, .int x3_6), (6, .int x6_12)]) hx hb d_Mo_parts_65 rfl hl (by decide) rfl (fun ls hl => ?_)
          obtain ⟨x6_20, ex6_20⟩ : ∃ y : Int32, y = x6_12 + 1 := ⟨_, rfl⟩
          have hm := gB_at ex6_20 hm
          refine lv_iinc (v := x6_20) (lv' := [(6, .int x6_20), (3, .int x3_19), (0, .ref a0), (1, .int x1_2), (2, .int x2_3), (5, .int x3_6)]) hx hb d_Mo_parts_66 hl (k := 5) rfl (by rw [ex6_20]; rfl) (by decide) rfl (fun ls hl => ?_)
          refine lv_goto (tgt := 34) hx hb d_Mo_parts_69 (by decide) ?_
          exact ih_34 _ hm _ _ rfl ls H locs (lv_sub hl [2, 3, 4, 1, 5, 0] rfl) hP hD hS
theorem d_Mo_told_0 : decode prog_10_method_49_code 0 = .ok (.aload_n 0, 1) := by decide +kernel
theorem d_Mo_told_1 : decode prog_10_method_49_code 1 = .ok (.iconst 0, 1) := by decide +kernel
theorem d_Mo_told_2 : decode prog_10_method_49_code 2 = .ok (.putfield 79, 3) := by decide +kernel
theorem d_Mo_told_5 : decode prog_10_method_49_code 5 = .ok (.iconst 0, 1) := by decide +kernel
theorem d_Mo_told_6 : decode prog_10_method_49_code 6 = .ok (.istore_n 2, 1) := by decide +kernel
theorem d_Mo_told_7 : decode prog_10_method_49_code 7 = .ok (.iload_n 1, 1) := by decide +kernel
theorem d_Mo_told_8 : decode prog_10_method_49_code 8 = .ok (.tableswitch 148 0 4 #[36, 41, 46, 91, 96], 36) := by decide +kernel
theorem d_Mo_told_44 : decode prog_10_method_49_code 44 = .ok (.aload_n 0, 1) := by decide +kernel
theorem d_Mo_told_45 : decode prog_10_method_49_code 45 = .ok (.getfield 86, 3) := by decide +kernel
theorem d_Mo_told_48 : decode prog_10_method_49_code 48 = .ok (.ireturn, 1) := by decide +kernel
theorem d_Mo_told_49 : decode prog_10_method_49_code 49 = .ok (.aload_n 0, 1) := by decide +kernel
theorem d_Mo_told_50 : decode prog_10_method_49_code 50 = .ok (.getfield 89, 3) := by decide +kernel
theorem d_Mo_told_53 : decode prog_10_method_49_code 53 = .ok (.ireturn, 1) := by decide +kernel
theorem d_Mo_told_54 : decode prog_10_method_49_code 54 = .ok (.iconst 0, 1) := by decide +kernel
theorem d_Mo_told_55 : decode prog_10_method_49_code 55 = .ok (.istore_n 3, 1) := by decide +kernel
theorem d_Mo_told_56 : decode prog_10_method_49_code 56 = .ok (.iload_n 3, 1) := by decide +kernel
theorem d_Mo_told_57 : decode prog_10_method_49_code 57 = .ok (.aload_n 0, 1) := by decide +kernel
theorem d_Mo_told_58 : decode prog_10_method_49_code 58 = .ok (.getfield 86, 3) := by decide +kernel
theorem d_Mo_told_61 : decode prog_10_method_49_code 61 = .ok (.if_icmp .ge 36, 3) := by decide +kernel
theorem d_Mo_told_64 : decode prog_10_method_49_code 64 = .ok (.aload_n 0, 1) := by decide +kernel
theorem d_Mo_told_65 : decode prog_10_method_49_code 65 = .ok (.getfield 16, 3) := by decide +kernel
theorem d_Mo_told_68 : decode prog_10_method_49_code 68 = .ok (.iload_n 3, 1) := by decide +kernel
theorem d_Mo_told_69 : decode prog_10_method_49_code 69 = .ok (.iaload, 1) := by decide +kernel
theorem d_Mo_told_70 : decode prog_10_method_49_code 70 = .ok (.invokestatic 145, 3) := by decide +kernel
theorem d_Mo_told_73 : decode prog_10_method_49_code 73 = .ok (.iload_n 2, 1) := by decide +kernel
theorem d_Mo_told_74 : decode prog_10_method_49_code 74 = .ok (.if_icmp .le 15, 3) := by decide +kernel
theorem d_Mo_told_77 : decode prog_10_method_49_code 77 = .ok (.aload_n 0, 1) := by decide +kernel
theorem d_Mo_told_78 : decode prog_10_method_49_code 78 = .ok (.getfield 16, 3) := by decide +kernel
theorem d_Mo_told_81 : decode prog_10_method_49_code 81 = .ok (.iload_n 3, 1) := by decide +kernel
theorem d_Mo_told_82 : decode prog_10_method_49_code 82 = .ok (.iaload, 1) := by decide +kernel
theorem d_Mo_told_83 : decode prog_10_method_49_code 83 = .ok (.invokestatic 145, 3) := by decide +kernel
theorem d_Mo_told_86 : decode prog_10_method_49_code 86 = .ok (.goto 4, 3) := by decide +kernel
theorem d_Mo_told_89 : decode prog_10_method_49_code 89 = .ok (.iload_n 2, 1) := by decide +kernel
theorem d_Mo_told_90 : decode prog_10_method_49_code 90 = .ok (.istore_n 2, 1) := by decide +kernel
theorem d_Mo_told_91 : decode prog_10_method_49_code 91 = .ok (.iinc 3 1, 3) := by decide +kernel
theorem d_Mo_told_94 : decode prog_10_method_49_code 94 = .ok (.goto (-38), 3) := by decide +kernel
theorem d_Mo_told_97 : decode prog_10_method_49_code 97 = .ok (.iload_n 2, 1) := by decide +kernel
theorem d_Mo_told_98 : decode prog_10_method_49_code 98 = .ok (.ireturn, 1) := by decide +kernel
theorem d_Mo_told_99 : decode prog_10_method_49_code 99 = .ok (.aload_n 0, 1) := by decide +kernel
theorem d_Mo_told_100 : decode prog_10_method_49_code 100 = .ok (.invokevirtual 170, 3) := by decide +kernel
theorem d_Mo_told_103 : decode prog_10_method_49_code 103 = .ok (.ireturn, 1) := by decide +kernel
theorem d_Mo_told_104 : decode prog_10_method_49_code 104 = .ok (.iconst 0, 1) := by decide +kernel
theorem d_Mo_told_105 : decode prog_10_method_49_code 105 = .ok (.istore_n 3, 1) := by decide +kernel
theorem d_Mo_told_106 : decode prog_10_method_49_code 106 = .ok (.iconst 0, 1) := by decide +kernel
theorem d_Mo_told_107 : decode prog_10_method_49_code 107 = .ok (.istore 4, 2) := by decide +kernel
theorem d_Mo_told_109 : decode prog_10_method_49_code 109 = .ok (.iload 4, 2) := by decide +kernel
theorem d_Mo_told_111 : decode prog_10_method_49_code 111 = .ok (.aload_n 0, 1) := by decide +kernel
theorem d_Mo_told_112 : decode prog_10_method_49_code 112 = .ok (.getfield 86, 3) := by decide +kernel
theorem d_Mo_told_115 : decode prog_10_method_49_code 115 = .ok (.if_icmp .ge 36, 3) := by decide +kernel
theorem d_Mo_told_118 : decode prog_10_method_49_code 118 = .ok (.iload_n 3, 1) := by decide +kernel
theorem d_Mo_told_119 : decode prog_10_method_49_code 119 = .ok (.aload_n 0, 1) := by decide +kernel
theorem d_Mo_told_120 : decode prog_10_method_49_code 120 = .ok (.getfield 31, 3) := by decide +kernel
theorem d_Mo_told_123 : decode prog_10_method_49_code 123 = .ok (.iload 4, 2) := by decide +kernel
theorem d_Mo_told_125 : decode prog_10_method_49_code 125 = .ok (.iaload, 1) := by decide +kernel
theorem d_Mo_told_126 : decode prog_10_method_49_code 126 = .ok (.iconst (-1), 1) := by decide +kernel
theorem d_Mo_told_127 : decode prog_10_method_49_code 127 = .ok (.if_icmp .ne 7, 3) := by decide +kernel
theorem d_Mo_told_130 : decode prog_10_method_49_code 130 = .ok (.iconst 0, 1) := by decide +kernel
theorem d_Mo_told_131 : decode prog_10_method_49_code 131 = .ok (.goto 12, 3) := by decide +kernel
theorem d_Mo_told_134 : decode prog_10_method_49_code 134 = .ok (.iconst 1, 1) := by decide +kernel
theorem d_Mo_told_135 : decode prog_10_method_49_code 135 = .ok (.aload_n 0, 1) := by decide +kernel
theorem d_Mo_told_136 : decode prog_10_method_49_code 136 = .ok (.getfield 31, 3) := by decide +kernel
theorem d_Mo_told_139 : decode prog_10_method_49_code 139 = .ok (.iload 4, 2) := by decide +kernel
theorem d_Mo_told_141 : decode prog_10_method_49_code 141 = .ok (.iaload, 1) := by decide +kernel
theorem d_Mo_told_142 : decode prog_10_method_49_code 142 = .ok (.ishl, 1) := by decide +kernel
theorem d_Mo_told_143 : decode prog_10_method_49_code 143 = .ok (.ior, 1) := by decide +kernel
theorem d_Mo_told_144 : decode prog_10_method_49_code 144 = .ok (.istore_n 3, 1) := by decide +kernel
theorem d_Mo_told_145 : decode prog_10_method_49_code 145 = .ok (.iinc 4 1, 3) := by decide +kernel
theorem d_Mo_told_148 : decode prog_10_method_49_code 148 = .ok (.goto (-39), 3) := by decide +kernel
theorem d_Mo_told_151 : decode prog_10_method_49_code 151 = .ok (.iload_n 3, 1) := by decide +kernel
theorem d_Mo_told_152 : decode prog_10_method_49_code 152 = .ok (.invokestatic 145, 3) := by decide +kernel
theorem d_Mo_told_155 : decode prog_10_method_49_code 155 = .ok (.ireturn, 1) := by decide +kernel
theorem d_Mo_told_156 : decode prog_10_method_49_code 156 = .ok (.iconst (-1), 1) := by decide +kernel
theorem d_Mo_told_157 : decode prog_10_method_49_code 157 = .ok (.ireturn, 1) := by decide +kernel
abbrev wd_Mo_told (cI cJ cG cZ : ClassId) (a0 a0_from a0_to a0_near a0_lists a0_colours a0_shades a0_tints a0_attempt a0_taken a0_isApart a0_ways a0_next a0_splits a0_powers a0_row a0_many a0_can a0_could a0_arcRow a0_order a0_isOut : Nat) (v0_thrown : Int32) (v0_nodes : Int32) (v0_arcs : Int32) (v0_takenMany : Int32) (v0_leftBits : Int32) (v0_hasPolynomial : Int32) (v0_hasLists : Int32) (w0_near : Nat → Int32) (w0_attempt : Nat → Int32) : va_W := [(a0, .inr (8, [.int v0_thrown, .int v0_nodes, .int v0_arcs, .ref a0_from, .ref a0_to, .ref a0_near, .ref a0_lists, .ref a0_colours, .ref a0_shades, .ref a0_tints, .ref a0_attempt, .int v0_takenMany, .ref a0_taken, .int v0_leftBits, .ref a0_isApart, .ref a0_ways, .ref a0_next, .ref a0_splits, .ref a0_powers, .ref a0_row, .ref a0_many, .int v0_hasPolynomial, .int v0_hasLists, .ref a0_can, .ref a0_could, .ref a0_arcRow, .ref a0_order, .ref a0_isOut])), (a0_near, .inl (cI, 12, .inl w0_near)), (a0_attempt, .inl (cI, 12, .inl w0_attempt))]
abbrev us_Mo_told : List Cond := .code y_Mo_told prog_10_method_49_code 5 (some .int) :: gtbl
abbrev rm_Mo_told : Room := { frames := 1, cells := 0, slots := 0, locals := 26 }
def m_Mo_told (F : Nat) (v0_thrown : Int32) (v0_nodes : Int32) (v0_arcs : Int32) (v0_takenMany : Int32) (v0_leftBits : Int32) (v0_hasPolynomial : Int32) (v0_hasLists : Int32) (w0_near : Nat → Int32) (w0_attempt : Nat → Int32) (p1 : Int32) : Option (Int32 × Int32) :=
  if p1 = 0 then (
    some (v0_nodes, 0)
  ) else (
  if p1 = 1 then (
    some (v0_arcs, 0)
  ) else (
  if p1 = 2 then (
    gL (fun (k_56 : (Int32 × Int32) → Option (Int32 × Int32)) (z_56 : Int32 × Int32) => match z_56 with
    | (x2_4, x3_5) =>
    if v0_nodes ≤ x3_5 then (
      some (x2_4, 0)
    ) else (
      gC (inb x3_5 12) (
      gM (m_Mo_count F (w0_near x3_5.toNatClampNeg)) (fun q_8 =>
      if q_8 ≤ x2_4 then (
        gB (x3_5 + 1) (fun x3_12 =>
        k_56 (x2_4, x3_12))
      ) else (
        gC (inb x3_5 12) (
        gM (m_Mo_count F (w0_near x3_5.toNatClampNeg)) (fun q_14 =>
        gB (x3_5 + 1) (fun x3_17 =>
        k_56 (q_14, x3_17))))
      )))
    )
    ) F (0, 0)
  ) else (
  if p1 = 3 then (
    gM (m_Mo_parts F 0 v0_nodes v0_arcs v0_takenMany v0_leftBits v0_hasPolynomial v0_hasLists w0_near) (fun q_19 =>
    some (q_19, 0))
  ) else (
  if p1 = 4 then (
    gL (fun (k_109 : (Int32 × Int32) → Option (Int32 × Int32)) (z_109 : Int32 × Int32) => match z_109 with
    | (x3_23, x4_24) =>
    if v0_nodes ≤ x4_24 then (
      gM (m_Mo_count F x3_23) (fun q_26 =>
      some (q_26, 0))
    ) else (
      gC (inb x4_24 12) (
      if (w0_attempt x4_24.toNatClampNeg) = ((-1) : Int32) then (
        gB (x3_23 ||| 0) (fun x3_34 =>
        gB (x4_24 + 1) (fun x4_35 =>
        k_109 (x3_34, x4_35)))
      ) else (
        gC (inb x4_24 12) (
        gB (x3_23 ||| ((1 : Int32) <<< ((w0_attempt x4_24.toNatClampNeg) &&& 31))) (fun x3_32 =>
        gB (x4_24 + 1) (fun x4_33 =>
        k_109 (x3_32, x4_33))))
      ))
    )
    ) F (0, 0)
  ) else (
  some ((-1), 0)
  )))))
set_option maxHeartbeats 4000000 in
set_option maxRecDepth 100000 in
theorem c_Mo_told (l : Launch) (dC : Nat → ClassId) (dI : Nat → Nat → Nat) (cI cJ cG cZ : ClassId) (a0 a0_from a0_to a0_near a0_lists a0_colours a0_shades a0_tints a0_attempt a0_taken a0_isApart a0_ways a0_next a0_splits a0_powers a0_row a0_many a0_can a0_could a0_arcRow a0_order a0_isOut : Nat) (sz : Nat) (F : Nat) (v0_thrown : Int32) (v0_nodes : Int32) (v0_arcs : Int32) (v0_takenMany : Int32) (v0_leftBits : Int32) (v0_hasPolynomial : Int32) (v0_hasLists : Int32) (w0_near : Nat → Int32) (w0_attempt : Nat → Int32) (p1 : Int32) (ret : Int32) (o_v0_thrown : Int32) (hm : m_Mo_told F v0_thrown v0_nodes v0_arcs v0_takenMany v0_leftBits v0_hasPolynomial v0_hasLists w0_near w0_attempt p1 = some (ret, o_v0_thrown)) : Met l y_Mo_told us_Mo_told rm_Mo_told (PcS (dC, dI) (tyL cI cJ cG cZ) [.ref a0, .int p1] sz (wd_Mo_told cI cJ cG cZ a0 a0_from a0_to a0_near a0_lists a0_colours a0_shades a0_tints a0_attempt a0_taken a0_isApart a0_ways a0_next a0_splits a0_powers a0_row a0_many a0_can a0_could a0_arcRow a0_order a0_isOut v0_thrown v0_nodes v0_arcs v0_takenMany v0_leftBits v0_hasPolynomial v0_hasLists w0_near w0_attempt)) (va_Qi (fun (r : Int32) (_ : Unit) => ret = r) (fun _ t => PoS (dC, dI) (tyL cI cJ cG cZ) (wd_Mo_told cI cJ cG cZ a0 a0_from a0_to a0_near a0_lists a0_colours a0_shades a0_tints a0_attempt a0_taken a0_isApart a0_ways a0_next a0_splits a0_powers a0_row a0_many a0_can a0_could a0_arcRow a0_order a0_isOut o_v0_thrown v0_nodes v0_arcs v0_takenMany v0_leftBits v0_hasPolynomial v0_hasLists w0_near w0_attempt) (va_A (wd_Mo_told cI cJ cG cZ a0 a0_from a0_to a0_near a0_lists a0_colours a0_shades a0_tints a0_attempt a0_taken a0_isApart a0_ways a0_next a0_splits a0_powers a0_row a0_many a0_can a0_could a0_arcRow a0_order a0_isOut v0_thrown v0_nodes v0_arcs v0_takenMany v0_leftBits v0_hasPolynomial v0_hasLists w0_near w0_attempt) sz) t) (va_A (wd_Mo_told cI cJ cG cZ a0 a0_from a0_to a0_near a0_lists a0_colours a0_shades a0_tints a0_attempt a0_taken a0_isApart a0_ways a0_next a0_splits a0_powers a0_row a0_many a0_can a0_could a0_arcRow a0_order a0_isOut v0_thrown v0_nodes v0_arcs v0_takenMany v0_leftBits v0_hasPolynomial v0_hasLists w0_near w0_attempt) sz)) 0 0 (va_A (wd_Mo_told cI cJ cG cZ a0 a0_from a0_to a0_near a0_lists a0_colours a0_shades a0_tints a0_attempt a0_taken a0_isApart a0_ways a0_next a0_splits a0_powers a0_row a0_many a0_can a0_could a0_arcRow a0_order a0_isOut v0_thrown v0_nodes v0_arcs v0_takenMany v0_leftBits v0_hasPolynomial v0_hasLists w0_near w0_attempt) sz) := by
  refine Met.ofW (cc := prog_10_method_49_code) (maxL := 5) (ret := (some .int)) (by decide) rfl ?_
  intro p e s m args below meth c s₁ B hml hv
  obtain ⟨rfl, hsz, hP, hK, hD0, hNw⟩ := hv
  have hx := B.exec
  have hb := B.bytes
  have hr := B.returns
  have htt : ∀ w ∈ gtbl, w.before _ s = true := fun w h => atoms_spec (ws := us_Mo_told) B.pre w (List.mem_cons_of_mem _ h)
  have hown : s.vm.findClass R_Mo = some m.cls := findClass_of_methodNamed B.named
  have hlocks := B.notSynchronized
  subst hsz
  have hD := hD0.self (sz := s.heap.size)
  generalize hAe : va_A (wd_Mo_told cI cJ cG cZ a0 a0_from a0_to a0_near a0_lists a0_colours a0_shades a0_tints a0_attempt a0_taken a0_isApart a0_ways a0_next a0_splits a0_powers a0_row a0_many a0_can a0_could a0_arcRow a0_order a0_isOut v0_thrown v0_nodes v0_arcs v0_takenMany v0_leftBits v0_hasPolynomial v0_hasLists w0_near w0_attempt) s.heap.size = A at hD ⊢
  have hA : ∀ q : Nat, s.heap.size ≤ q → A q := fun q h => by rw [← hAe]; exact Or.inr h
  clear hAe hD0
  have hS : va_S A s.heap s.heap [] := va_S.rf
  have hl := lv_entry ([.ref a0, .int p1]) (n := 5) (Nat.le_of_ble_eq_true rfl)
  rw [lg_entry_eq]
  generalize (lg_sl ([.ref a0, .int p1]) ++ List.replicate (5 - (lg_sl ([.ref a0, .int p1])).length) Slot.unset).toArray = ls at hl ⊢
  have hl : lv_has ls 5 [(0, .ref a0), (1, .int p1)] := hl
  generalize hH : s.heap = H at hP ⊢
  have hS : va_S A s.heap H [] := hH ▸ hS
  generalize hLo : ([] : List Loc) = locs at hS ⊢
  clear hH hLo
  unfold m_Mo_told at hm
  refine lv_aload_n hx hb d_Mo_told_0 rfl (lv_at hl 0 rfl) ?_
  refine lv_iconst (v := 0) hx hb d_Mo_told_1 (by decide) ?_
  refine va_put (D := (dC, dI)) (ci := 8) (v := .int 0) (ty := .int) (C := R_Mo) (T := T_Mo) (N := 28) hx hb htt hin_Mo ty_Mo tyok_Mo nm_Mo hown hK hP hD hS 0 rfl rfl 0 (by decide) (htt _ kt_769) (fun _ h9 => h9) rfl (by decide +kernel) rfl rfl (Nat.le_of_ble_eq_true rfl) d_Mo_told_2 (fun H locs hP hD hS => ?_)
  have hP : va_P (dC, dI) vwCl (wd_Mo_told cI cJ cG cZ a0 a0_from a0_to a0_near a0_lists a0_colours a0_shades a0_tints a0_attempt a0_taken a0_isApart a0_ways a0_next a0_splits a0_powers a0_row a0_many a0_can a0_could a0_arcRow a0_order a0_isOut 0 v0_nodes v0_arcs v0_takenMany v0_leftBits v0_hasPolynomial v0_hasLists w0_near w0_attempt) H := hP
  have hD : va_D A (wd_Mo_told cI cJ cG cZ a0 a0_from a0_to a0_near a0_lists a0_colours a0_shades a0_tints a0_attempt a0_taken a0_isApart a0_ways a0_next a0_splits a0_powers a0_row a0_many a0_can a0_could a0_arcRow a0_order a0_isOut 0 v0_nodes v0_arcs v0_takenMany v0_leftBits v0_hasPolynomial v0_hasLists w0_near w0_attempt) := hD
  refine lv_iconst (v := 0) hx hb d_Mo_told_5 (by decide) ?_
  refine lv_istore_n (lv' := [(2, .int 0), (0, .ref a0), (1, .int p1)]) hx hb d_Mo_told_6 rfl hl (by decide) rfl (fun ls hl => ?_)
  refine lv_iload_n hx hb d_Mo_told_7 rfl (lv_at hl 2 rfl) ?_
  by_cases c_1 : p1 = 0
  · have hm := ite_t c_1 hm
    refine lv_tableIn (tgt := 44) hx hb d_Mo_told_8 (by rw [c_1]; decide) (by rw [c_1]; decide) (by rw [c_1]; rfl) (by decide) ?_
    refine lv_aload_n hx hb d_Mo_told_44 rfl (lv_at hl 1 rfl) ?_
    refine va_get (D := (dC, dI)) (ci := 8) (v := .int v0_nodes) (C := R_Mo) (T := T_Mo) (N := 28) hx hb htt hin_Mo hown hK hP 0 rfl rfl 1 (by decide) (htt _ kt_770) (fun _ h9 => h9) rfl d_Mo_told_45 ?_
    cases hm
    exact W.iret hx hb hr (fun t ht hW => ⟨⟨_, (), rfl, rfl, by rw [ht]; exact hP, va_K.moved hW.alike hK, hD⟩, hS.F ht⟩) hS.2.2 d_Mo_told_48
  have hm := ite_f c_1 hm
  by_cases c_2 : p1 = 1
  · have hm := ite_t c_2 hm
    refine lv_tableIn (tgt := 49) hx hb d_Mo_told_8 (by rw [c_2]; decide) (by rw [c_2]; decide) (by rw [c_2]; rfl) (by decide) ?_
    refine lv_aload_n hx hb d_Mo_told_49 rfl (lv_at hl 1 rfl) ?_
    refine va_get (D := (dC, dI)) (ci := 8) (v := .int v0_arcs) (C := R_Mo) (T := T_Mo) (N := 28) hx hb htt hin_Mo hown hK hP 0 rfl rfl 2 (by decide) (htt _ kt_771) (fun _ h9 => h9) rfl d_Mo_told_50 ?_
    cases hm
    exact W.iret hx hb hr (fun t ht hW => ⟨⟨_, (), rfl, rfl, by rw [ht]; exact hP, va_K.moved hW.alike hK, hD⟩, hS.F ht⟩) hS.2.2 d_Mo_told_53
  have hm := ite_f c_2 hm
  by_cases c_3 : p1 = 2
  · have hm := ite_t c_3 hm
    refine lv_tableIn (tgt := 54) hx hb d_Mo_told_8 (by rw [c_3]; decide) (by rw [c_3]; decide) (by rw [c_3]; rfl) (by decide) ?_
    refine lv_iconst (v := 0) hx hb d_Mo_told_54 (by decide) ?_
    refine lv_istore_n (lv' := [(3, .int 0), (2, .int 0), (0, .ref a0), (1, .int p1)]) hx hb d_Mo_told_55 rfl hl (by decide) rfl (fun ls hl => ?_)
    refine gL_e (P := (fun (z_56 : Int32 × Int32) => ∀ (x2_4 : Int32), ∀ (x3_5 : Int32), z_56 = (x2_4, x3_5) → ∀ (ls : Array Slot) (H : Heap) (locs : List Loc), lv_has ls 5 [(0, .ref a0), (2, .int x2_4), (3, .int x3_5)] → va_P (dC, dI) vwCl (wd_Mo_told cI cJ cG cZ a0 a0_from a0_to a0_near a0_lists a0_colours a0_shades a0_tints a0_attempt a0_taken a0_isApart a0_ways a0_next a0_splits a0_powers a0_row a0_many a0_can a0_could a0_arcRow a0_order a0_isOut 0 v0_nodes v0_arcs v0_takenMany v0_leftBits v0_hasPolynomial v0_hasLists w0_near w0_attempt) H → va_D A (wd_Mo_told cI cJ cG cZ a0 a0_from a0_to a0_near a0_lists a0_colours a0_shades a0_tints a0_attempt a0_taken a0_isApart a0_ways a0_next a0_splits a0_powers a0_row a0_many a0_can a0_could a0_arcRow a0_order a0_isOut 0 v0_nodes v0_arcs v0_takenMany v0_leftBits v0_hasPolynomial v0_hasLists w0_near w0_attempt) → va_S A s.heap H locs → W p l e (headSpec us_Mo_told rm_Mo_told).room s m ([.ref a0, .int p1] : List Value).toArray below meth c H locs 0 0 (MQ below (va_Qi (fun (r : Int32) (_ : Unit) => ret = r) (fun _ t => PoS (dC, dI) (tyL cI cJ cG cZ) (wd_Mo_told cI cJ cG cZ a0 a0_from a0_to a0_near a0_lists a0_colours a0_shades a0_tints a0_attempt a0_taken a0_isApart a0_ways a0_next a0_splits a0_powers a0_row a0_many a0_can a0_could a0_arcRow a0_order a0_isOut o_v0_thrown v0_nodes v0_arcs v0_takenMany v0_leftBits v0_hasPolynomial v0_hasLists w0_near w0_attempt) A t) A) ([.ref a0, .int p1] : List Value).toArray s 0 0 A) (F0 m 56 ls []))) hm (fun k_56 z_56 ih_56 hm => ?_) _ _ rfl ls H locs (lv_sub hl [2, 1, 0] rfl) hP hD hS
    intro x2_4 x3_5 hz ls H locs hl hP hD hS
    subst hz
    dsimp only at hm
    refine lv_iload_n hx hb d_Mo_told_56 rfl (lv_at hl 2 rfl) ?_
    refine lv_aload_n hx hb d_Mo_told_57 rfl (lv_at hl 0 rfl) ?_
    refine va_get (D := (dC, dI)) (ci := 8) (v := .int v0_nodes) (C := R_Mo) (T := T_Mo) (N := 28) hx hb htt hin_Mo hown hK hP 0 rfl rfl 1 (by decide) (htt _ kt_770) (fun _ h9 => h9) rfl d_Mo_told_58 ?_
    refine lv_icmp_ge (tgt := 97) hx hb d_Mo_told_61 (by decide) (fun c_6 => ?_) (fun c_6 => ?_)
    · have hm := ite_t c_6 hm
      refine lv_iload_n hx hb d_Mo_told_97 rfl (lv_at hl 1 rfl) ?_
      cases hm
      exact W.iret hx hb hr (fun t ht hW => ⟨⟨_, (), rfl, rfl, by rw [ht]; exact hP, va_K.moved hW.alike hK, hD⟩, hS.F ht⟩) hS.2.2 d_Mo_told_98
    · have hm := ite_f c_6 hm
      refine lv_aload_n hx hb d_Mo_told_64 rfl (lv_at hl 0 rfl) ?_
      refine va_get (D := (dC, dI)) (ci := 8) (v := .ref a0_near) (C := R_Mo) (T := T_Mo) (N := 28) hx hb htt hin_Mo hown hK hP 0 rfl rfl 5 (by decide) (htt _ kt_774) (fun _ h9 => h9) rfl d_Mo_told_65 ?_
      refine lv_iload_n hx hb d_Mo_told_68 rfl (lv_at hl 2 rfl) ?_
      obtain ⟨hi_7, hm⟩ := gC_e hm
      refine va_iald hx hb hK hP 1 0 rfl rfl (inb_vp hi_7) d_Mo_told_69 ?_
      obtain ⟨q_8, hc_9, hm⟩ := gM_e hm
      have hPc : va_P (dC, dI) vwCl (wd_Mo_count cI cJ cG cZ) H := hP.sub [] rfl
      have hDc : va_D A (wd_Mo_count cI cJ cG cZ) := hD.sub [] (by decide) rfl
      have hFc : ∀ q, va_A (wd_Mo_count cI cJ cG cZ) H.size q → A q := va_free hD hS hA [] rfl
      refine va_calli (va_runS (As := [.int (w0_near x3_5.toNatClampNeg)]) (rest := []) ⟨hx, hb, hml, hown, htt⟩ (c_Mo_count l dC dI cI cJ cG cZ H.size F (w0_near x3_5.toNatClampNeg) q_8 hc_9) (cwS 1 htt (gdS kt_972 kt_973 kt_10 kt_974) rfl rfl rfl (by decide +kernel) ⟨(Nat.le_of_ble_eq_true rfl), (Nat.le_of_ble_eq_true rfl)⟩) ⟨PcS_blind, PcS_in hPc hK hDc hNw⟩ rfl rfl hl.1 rfl (lv_room (Nat.le_of_ble_eq_true rfl)) d_Mo_told_70 ⟨Nat.zero_le _, Nat.zero_le _⟩) hS (fun q _ h => hFc q h) hFc (fun r_10 u t H1 locs ht hvm hw hB hz1 hk1 hS => ?_)
      obtain ⟨hP1, hK1, hD1⟩ := hB
      rw [ht] at hP1
      subst hw
      obtain ⟨hP, hD⟩ := va_join (wr := [(a0, .inr (8, [.int 0, .int v0_nodes, .int v0_arcs, .ref a0_from, .ref a0_to, .ref a0_near, .ref a0_lists, .ref a0_colours, .ref a0_shades, .ref a0_tints, .ref a0_attempt, .int v0_takenMany, .ref a0_taken, .int v0_leftBits, .ref a0_isApart, .ref a0_ways, .ref a0_next, .ref a0_splits, .ref a0_powers, .ref a0_row, .ref a0_many, .int v0_hasPolynomial, .int v0_hasLists, .ref a0_can, .ref a0_could, .ref a0_arcRow, .ref a0_order, .ref a0_isOut])), (a0_near, .inl (cI, 12, .inl w0_near)), (a0_attempt, .inl (cI, 12, .inl w0_attempt))]) (w1 := (wd_Mo_count cI cJ cG cZ)) hP hD [] [0, 1, 2] rfl rfl (by decide) (by decide) hk1 hFc hP1 hD1
      have hP : va_P (dC, dI) vwCl (wd_Mo_told cI cJ cG cZ a0 a0_from a0_to a0_near a0_lists a0_colours a0_shades a0_tints a0_attempt a0_taken a0_isApart a0_ways a0_next a0_splits a0_powers a0_row a0_many a0_can a0_could a0_arcRow a0_order a0_isOut 0 v0_nodes v0_arcs v0_takenMany v0_leftBits v0_hasPolynomial v0_hasLists w0_near w0_attempt) H1 := hP.sub [0, 1, 2] rfl
      have hD : va_D A (wd_Mo_told cI cJ cG cZ a0 a0_from a0_to a0_near a0_lists a0_colours a0_shades a0_tints a0_attempt a0_taken a0_isApart a0_ways a0_next a0_splits a0_powers a0_row a0_many a0_can a0_could a0_arcRow a0_order a0_isOut 0 v0_nodes v0_arcs v0_takenMany v0_leftBits v0_hasPolynomial v0_hasLists w0_near w0_attempt) := hD.sub [0, 1, 2] (by decide) rfl
      clear hP1 hK1 hD1 hk1 hPc hDc hFc ht hvm hz1
      generalize H1 = H at hP hS ⊢
      refine lv_iload_n hx hb d_Mo_told_73 rfl (lv_at hl 1 rfl) ?_
      refine lv_icmp_le (tgt := 89) hx hb d_Mo_told_74 (by decide) (fun c_11 => ?_) (fun c_11 => ?_)
      · have hm := ite_t c_11 hm
        refine lv_iload_n hx hb d_Mo_told_89 rfl (lv_at hl 1 rfl) ?_
        refine lv_istore_n (lv' := [(2, .int x2_4), (0, .ref a0), (3, .int x3_5)]) hx hb d_Mo_told_90 rfl hl (by decide) rfl (fun ls hl => ?_)
        obtain ⟨x3_12, ex3_12⟩ : ∃ y : Int32, y = x3_5 + 1 := ⟨_, rfl⟩
        have hm := gB_at ex3_12 hm
        refine lv_iinc (v := x3_12) (lv' := [(3, .int x3_12), (2, .int x2_4), (0, .ref a0)]) hx hb d_Mo_told_91 hl (k := 2) rfl (by rw [ex3_12]; rfl) (by decide) rfl (fun ls hl => ?_)
        refine lv_goto (tgt := 56) hx hb d_Mo_told_94 (by decide) ?_
        exact ih_56 _ hm _ _ rfl ls H locs (lv_sub hl [2, 1, 0] rfl) hP hD hS
      · have hm := ite_f c_11 hm
        refine lv_aload_n hx hb d_Mo_told_77 rfl (lv_at hl 0 rfl) ?_
        refine va_get (D := (dC, dI)) (ci := 8) (v := .ref a0_near) (C := R_Mo) (T := T_Mo) (N := 28) hx hb htt hin_Mo hown hK hP 0 rfl rfl 5 (by decide) (htt _ kt_774) (fun _ h9 => h9) rfl d_Mo_told_78 ?_
        refine lv_iload_n hx hb d_Mo_told_81 rfl (lv_at hl 2 rfl) ?_
        obtain ⟨hi_13, hm⟩ := gC_e hm
        refine va_iald hx hb hK hP 1 0 rfl rfl (inb_vp hi_13) d_Mo_told_82 ?_
        obtain ⟨q_14, hc_15, hm⟩ := gM_e hm
        have hPc : va_P (dC, dI) vwCl (wd_Mo_count cI cJ cG cZ) H := hP.sub [] rfl
        have hDc : va_D A (wd_Mo_count cI cJ cG cZ) := hD.sub [] (by decide) rfl
        have hFc : ∀ q, va_A (wd_Mo_count cI cJ cG cZ) H.size q → A q := va_free hD hS hA [] rfl
        refine va_calli (va_runS (As := [.int (w0_near x3_5.toNatClampNeg)]) (rest := []) ⟨hx, hb, hml, hown, htt⟩ (c_Mo_count l dC dI cI cJ cG cZ H.size F (w0_near x3_5.toNatClampNeg) q_14 hc_15) (cwS 1 htt (gdS kt_972 kt_973 kt_10 kt_974) rfl rfl rfl (by decide +kernel) ⟨(Nat.le_of_ble_eq_true rfl), (Nat.le_of_ble_eq_true rfl)⟩) ⟨PcS_blind, PcS_in hPc hK hDc hNw⟩ rfl rfl hl.1 rfl (lv_room (Nat.le_of_ble_eq_true rfl)) d_Mo_told_83 ⟨Nat.zero_le _, Nat.zero_le _⟩) hS (fun q _ h => hFc q h) hFc (fun r_16 u t H1 locs ht hvm hw hB hz1 hk1 hS => ?_)
        obtain ⟨hP1, hK1, hD1⟩ := hB
        rw [ht] at hP1
        subst hw
        obtain ⟨hP, hD⟩ := va_join (wr := [(a0, .inr (8, [.int 0, .int v0_nodes, .int v0_arcs, .ref a0_from, .ref a0_to, .ref a0_near, .ref a0_lists, .ref a0_colours, .ref a0_shades, .ref a0_tints, .ref a0_attempt, .int v0_takenMany, .ref a0_taken, .int v0_leftBits, .ref a0_isApart, .ref a0_ways, .ref a0_next, .ref a0_splits, .ref a0_powers, .ref a0_row, .ref a0_many, .int v0_hasPolynomial, .int v0_hasLists, .ref a0_can, .ref a0_could, .ref a0_arcRow, .ref a0_order, .ref a0_isOut])), (a0_near, .inl (cI, 12, .inl w0_near)), (a0_attempt, .inl (cI, 12, .inl w0_attempt))]) (w1 := (wd_Mo_count cI cJ cG cZ)) hP hD [] [0, 1, 2] rfl rfl (by decide) (by decide) hk1 hFc hP1 hD1
        have hP : va_P (dC, dI) vwCl (wd_Mo_told cI cJ cG cZ a0 a0_from a0_to a0_near a0_lists a0_colours a0_shades a0_tints a0_attempt a0_taken a0_isApart a0_ways a0_next a0_splits a0_powers a0_row a0_many a0_can a0_could a0_arcRow a0_order a0_isOut 0 v0_nodes v0_arcs v0_takenMany v0_leftBits v0_hasPolynomial v0_hasLists w0_near w0_attempt) H1 := hP.sub [0, 1, 2] rfl
        have hD : va_D A (wd_Mo_told cI cJ cG cZ a0 a0_from a0_to a0_near a0_lists a0_colours a0_shades a0_tints a0_attempt a0_taken a0_isApart a0_ways a0_next a0_splits a0_powers a0_row a0_many a0_can a0_could a0_arcRow a0_order a0_isOut 0 v0_nodes v0_arcs v0_takenMany v0_leftBits v0_hasPolynomial v0_hasLists w0_near w0_attempt) := hD.sub [0, 1, 2] (by decide) rfl
        clear hP1 hK1 hD1 hk1 hPc hDc hFc ht hvm hz1
        generalize H1 = H at hP hS ⊢
        refine lv_goto (tgt := 90) hx hb d_Mo_told_86 (by decide) ?_
        refine lv_istore_n (lv' := [(2, .int q_14), (0, .ref a0), (3, .int x3_5)]) hx hb d_Mo_told_90 rfl hl (by decide) rfl (fun ls hl => ?_)
        obtain ⟨x3_17, ex3_17⟩ : ∃ y : Int32, y = x3_5 + 1 := ⟨_, rfl⟩
        have hm := gB_at ex3_17 hm
        refine lv_iinc (v := x3_17) (lv' := [(3, .int x3_17), (2, .int q_14), (0, .ref a0)]) hx hb d_Mo_told_91 hl (k := 2) rfl (by rw [ex3_17]; rfl) (by decide) rfl (fun ls hl => ?_)
        refine lv_goto (tgt := 56) hx hb d_Mo_told_94 (by decide) ?_
        exact ih_56 _ hm _ _ rfl ls H locs (lv_sub hl [2, 1, 0] rfl) hP hD hS
  have hm := ite_f c_3 hm
  by_cases c_18 : p1 = 3
  · have hm := ite_t c_18 hm
    refine lv_tableIn (tgt := 99) hx hb d_Mo_told_8 (by rw [c_18]; decide) (by rw [c_18]; decide) (by rw [c_18]; rfl) (by decide) ?_
    refine lv_aload_n hx hb d_Mo_told_99 rfl (lv_at hl 1 rfl) ?_
    obtain ⟨q_19, hc_20, hm⟩ := gM_e hm
    have hPc : va_P (dC, dI) vwCl (wd_Mo_parts cI cJ cG cZ a0 a0_from a0_to a0_near a0_lists a0_colours a0_shades a0_tints a0_attempt a0_taken a0_isApart a0_ways a0_next a0_splits a0_powers a0_row a0_many a0_can a0_could a0_arcRow a0_order a0_isOut 0 v0_nodes v0_arcs v0_takenMany v0_leftBits v0_hasPolynomial v0_hasLists w0_near) H := hP.sub [0, 1] rfl
    have hDc : va_D A (wd_Mo_parts cI cJ cG cZ a0 a0_from a0_to a0_near a0_lists a0_colours a0_shades a0_tints a0_attempt a0_taken a0_isApart a0_ways a0_next a0_splits a0_powers a0_row a0_many a0_can a0_could a0_arcRow a0_order a0_isOut 0 v0_nodes v0_arcs v0_takenMany v0_leftBits v0_hasPolynomial v0_hasLists w0_near) := hD.sub [0, 1] (by decide) rfl
    have hFc : ∀ q, va_A (wd_Mo_parts cI cJ cG cZ a0 a0_from a0_to a0_near a0_lists a0_colours a0_shades a0_tints a0_attempt a0_taken a0_isApart a0_ways a0_next a0_splits a0_powers a0_row a0_many a0_can a0_could a0_arcRow a0_order a0_isOut 0 v0_nodes v0_arcs v0_takenMany v0_leftBits v0_hasPolynomial v0_hasLists w0_near) H.size q → A q := va_free hD hS hA [0, 1] rfl
    refine va_calli (va_runV (As := []) (rest := []) ⟨hx, hb, hml, hown, htt⟩ (c_Mo_parts l dC dI cI cJ cG cZ a0 a0_from a0_to a0_near a0_lists a0_colours a0_shades a0_tints a0_attempt a0_taken a0_isApart a0_ways a0_next a0_splits a0_powers a0_row a0_many a0_can a0_could a0_arcRow a0_order a0_isOut H.size F 0 v0_nodes v0_arcs v0_takenMany v0_leftBits v0_hasPolynomial v0_hasLists w0_near q_19 hc_20) (cwV 0 htt (gdV kt_1039 kt_1041 kp_61 kt_10 kt_1042) rfl rfl rfl (by decide +kernel) ⟨(Nat.le_of_ble_eq_true rfl), (Nat.le_of_ble_eq_true rfl)⟩) ⟨PcS_blind, va_recv hK hPc (ci := 8) (q0 := 0) rfl rfl, PcS_in hPc hK hDc hNw⟩ rfl rfl hl.1 rfl (lv_room (Nat.le_of_ble_eq_true rfl)) d_Mo_told_100 ⟨Nat.zero_le _, Nat.zero_le _⟩) hS (fun q _ h => hFc q h) hFc (fun r_21 u t H1 locs ht hvm hw hB hz1 hk1 hS => ?_)
    obtain ⟨hP1, hK1, hD1⟩ := hB
    rw [ht] at hP1
    subst hw
    obtain ⟨hP, hD⟩ := va_join (wr := [(a0_attempt, .inl (cI, 12, .inl w0_attempt))]) (w1 := (wd_Mo_parts cI cJ cG cZ a0 a0_from a0_to a0_near a0_lists a0_colours a0_shades a0_tints a0_attempt a0_taken a0_isApart a0_ways a0_next a0_splits a0_powers a0_row a0_many a0_can a0_could a0_arcRow a0_order a0_isOut 0 v0_nodes v0_arcs v0_takenMany v0_leftBits v0_hasPolynomial v0_hasLists w0_near)) hP hD [0, 1] [2] rfl rfl (by decide) (by decide) hk1 hFc hP1 hD1
    have hP : va_P (dC, dI) vwCl (wd_Mo_told cI cJ cG cZ a0 a0_from a0_to a0_near a0_lists a0_colours a0_shades a0_tints a0_attempt a0_taken a0_isApart a0_ways a0_next a0_splits a0_powers a0_row a0_many a0_can a0_could a0_arcRow a0_order a0_isOut 0 v0_nodes v0_arcs v0_takenMany v0_leftBits v0_hasPolynomial v0_hasLists w0_near w0_attempt) H1 := hP.sub [1, 2, 0] rfl
    have hD : va_D A (wd_Mo_told cI cJ cG cZ a0 a0_from a0_to a0_near a0_lists a0_colours a0_shades a0_tints a0_attempt a0_taken a0_isApart a0_ways a0_next a0_splits a0_powers a0_row a0_many a0_can a0_could a0_arcRow a0_order a0_isOut 0 v0_nodes v0_arcs v0_takenMany v0_leftBits v0_hasPolynomial v0_hasLists w0_near w0_attempt) := hD.sub [1, 2, 0] (by decide) rfl
    clear hP1 hK1 hD1 hk1 hPc hDc hFc ht hvm hz1
    generalize H1 = H at hP hS ⊢
    cases hm
    exact W.iret hx hb hr (fun t ht hW => ⟨⟨_, (), rfl, rfl, by rw [ht]; exact hP, va_K.moved hW.alike hK, hD⟩, hS.F ht⟩) hS.2.2 d_Mo_told_103
  have hm := ite_f c_18 hm
  by_cases c_22 : p1 = 4
  · have hm := ite_t c_22 hm
    refine lv_tableIn (tgt := 104) hx hb d_Mo_told_8 (by rw [c_22]; decide) (by rw [c_22]; decide) (by rw [c_22]; rfl) (by decide) ?_
    refine lv_iconst (v := 0) hx hb d_Mo_told_104 (by decide) ?_
    refine lv_istore_n (lv' := [(3, .int 0), (2, .int 0), (0, .ref a0), (1, .int p1)]) hx hb d_Mo_told_105 rfl hl (by decide) rfl (fun ls hl => ?_)
    refine lv_iconst (v := 0) hx hb d_Mo_told_106 (by decide) ?_
    refine lv_istore (lv' := [(4, .int 0), (3, .int 0), (2, .int 0), (0, .ref a0), (1, .int p1)]) hx hb d_Mo_told_107 hl (by decide) rfl (fun ls hl => ?_)
    refine gL_e (P := (fun (z_109 : Int32 × Int32) => ∀ (x3_23 : Int32), ∀ (x4_24 : Int32), z_109 = (x3_23, x4_24) → ∀ (ls : Array Slot) (H : Heap) (locs : List Loc), lv_has ls 5 [(0, .ref a0), (3, .int x3_23), (4, .int x4_24)] → va_P (dC, dI) vwCl (wd_Mo_told cI cJ cG cZ a0 a0_from a0_to a0_near a0_lists a0_colours a0_shades a0_tints a0_attempt a0_taken a0_isApart a0_ways a0_next a0_splits a0_powers a0_row a0_many a0_can a0_could a0_arcRow a0_order a0_isOut 0 v0_nodes v0_arcs v0_takenMany v0_leftBits v0_hasPolynomial v0_hasLists w0_near w0_attempt) H → va_D A (wd_Mo_told cI cJ cG cZ a0 a0_from a0_to a0_near a0_lists a0_colours a0_shades a0_tints a0_attempt a0_taken a0_isApart a0_ways a0_next a0_splits a0_powers a0_row a0_many a0_can a0_could a0_arcRow a0_order a0_isOut 0 v0_nodes v0_arcs v0_takenMany v0_leftBits v0_hasPolynomial v0_hasLists w0_near w0_attempt) → va_S A s.heap H locs → W p l e (headSpec us_Mo_told rm_Mo_told).room s m ([.ref a0, .int p1] : List Value).toArray below meth c H locs 0 0 (MQ below (va_Qi (fun (r : Int32) (_ : Unit) => ret = r) (fun _ t => PoS (dC, dI) (tyL cI cJ cG cZ) (wd_Mo_told cI cJ cG cZ a0 a0_from a0_to a0_near a0_lists a0_colours a0_shades a0_tints a0_attempt a0_taken a0_isApart a0_ways a0_next a0_splits a0_powers a0_row a0_many a0_can a0_could a0_arcRow a0_order a0_isOut o_v0_thrown v0_nodes v0_arcs v0_takenMany v0_leftBits v0_hasPolynomial v0_hasLists w0_near w0_attempt) A t) A) ([.ref a0, .int p1] : List Value).toArray s 0 0 A) (F0 m 109 ls []))) hm (fun k_109 z_109 ih_109 hm => ?_) _ _ rfl ls H locs (lv_sub hl [3, 1, 0] rfl) hP hD hS
    intro x3_23 x4_24 hz ls H locs hl hP hD hS
    subst hz
    dsimp only at hm
    refine lv_iload hx hb d_Mo_told_109 (lv_at hl 2 rfl) ?_
    refine lv_aload_n hx hb d_Mo_told_111 rfl (lv_at hl 0 rfl) ?_
    refine va_get (D := (dC, dI)) (ci := 8) (v := .int v0_nodes) (C := R_Mo) (T := T_Mo) (N := 28) hx hb htt hin_Mo hown hK hP 0 rfl rfl 1 (by decide) (htt _ kt_770) (fun _ h9 => h9) rfl d_Mo_told_112 ?_
    refine lv_icmp_ge (tgt := 151) hx hb d_Mo_told_115 (by decide) (fun c_25 => ?_) (fun c_25 => ?_)
    · have hm := ite_t c_25 hm
      refine lv_iload_n hx hb d_Mo_told_151 rfl (lv_at hl 1 rfl) ?_
      obtain ⟨q_26, hc_27, hm⟩ := gM_e hm
      have hPc : va_P (dC, dI) vwCl (wd_Mo_count cI cJ cG cZ) H := hP.sub [] rfl
      have hDc : va_D A (wd_Mo_count cI cJ cG cZ) := hD.sub [] (by decide) rfl
      have hFc : ∀ q, va_A (wd_Mo_count cI cJ cG cZ) H.size q → A q := va_free hD hS hA [] rfl
      refine va_calli (va_runS (As := [.int x3_23]) (rest := []) ⟨hx, hb, hml, hown, htt⟩ (c_Mo_count l dC dI cI cJ cG cZ H.size F x3_23 q_26 hc_27) (cwS 1 htt (gdS kt_972 kt_973 kt_10 kt_974) rfl rfl rfl (by decide +kernel) ⟨(Nat.le_of_ble_eq_true rfl), (Nat.le_of_ble_eq_true rfl)⟩) ⟨PcS_blind, PcS_in hPc hK hDc hNw⟩ rfl rfl hl.1 rfl (lv_room (Nat.le_of_ble_eq_true rfl)) d_Mo_told_152 ⟨Nat.zero_le _, Nat.zero_le _⟩) hS (fun q _ h => hFc q h) hFc (fun r_28 u t H1 locs ht hvm hw hB hz1 hk1 hS => ?_)
      obtain ⟨hP1, hK1, hD1⟩ := hB
      rw [ht] at hP1
      subst hw
      obtain ⟨hP, hD⟩ := va_join (wr := [(a0, .inr (8, [.int 0, .int v0_nodes, .int v0_arcs, .ref a0_from, .ref a0_to, .ref a0_near, .ref a0_lists, .ref a0_colours, .ref a0_shades, .ref a0_tints, .ref a0_attempt, .int v0_takenMany, .ref a0_taken, .int v0_leftBits, .ref a0_isApart, .ref a0_ways, .ref a0_next, .ref a0_splits, .ref a0_powers, .ref a0_row, .ref a0_many, .int v0_hasPolynomial, .int v0_hasLists, .ref a0_can, .ref a0_could, .ref a0_arcRow, .ref a0_order, .ref a0_isOut])), (a0_near, .inl (cI, 12, .inl w0_near)), (a0_attempt, .inl (cI, 12, .inl w0_attempt))]) (w1 := (wd_Mo_count cI cJ cG cZ)) hP hD [] [0, 1, 2] rfl rfl (by decide) (by decide) hk1 hFc hP1 hD1
      have hP : va_P (dC, dI) vwCl (wd_Mo_told cI cJ cG cZ a0 a0_from a0_to a0_near a0_lists a0_colours a0_shades a0_tints a0_attempt a0_taken a0_isApart a0_ways a0_next a0_splits a0_powers a0_row a0_many a0_can a0_could a0_arcRow a0_order a0_isOut 0 v0_nodes v0_arcs v0_takenMany v0_leftBits v0_hasPolynomial v0_hasLists w0_near w0_attempt) H1 := hP.sub [0, 1, 2] rfl
      have hD : va_D A (wd_Mo_told cI cJ cG cZ a0 a0_from a0_to a0_near a0_lists a0_colours a0_shades a0_tints a0_attempt a0_taken a0_isApart a0_ways a0_next a0_splits a0_powers a0_row a0_many a0_can a0_could a0_arcRow a0_order a0_isOut 0 v0_nodes v0_arcs v0_takenMany v0_leftBits v0_hasPolynomial v0_hasLists w0_near w0_attempt) := hD.sub [0, 1, 2] (by decide) rfl
      clear hP1 hK1 hD1 hk1 hPc hDc hFc ht hvm hz1
      generalize H1 = H at hP hS ⊢
      cases hm
      exact W.iret hx hb hr (fun t ht hW => ⟨⟨_, (), rfl, rfl, by rw [ht]; exact hP, va_K.moved hW.alike hK, hD⟩, hS.F ht⟩) hS.2.2 d_Mo_told_155
    · have hm := ite_f c_25 hm
      refine lv_iload_n hx hb d_Mo_told_118 rfl (lv_at hl 1 rfl) ?_
      refine lv_aload_n hx hb d_Mo_told_119 rfl (lv_at hl 0 rfl) ?_
      refine va_get (D := (dC, dI)) (ci := 8) (v := .ref a0_attempt) (C := R_Mo) (T := T_Mo) (N := 28) hx hb htt hin_Mo hown hK hP 0 rfl rfl 10 (by decide) (htt _ kt_779) (fun _ h9 => h9) rfl d_Mo_told_120 ?_
      refine lv_iload hx hb d_Mo_told_123 (lv_at hl 2 rfl) ?_
      obtain ⟨hi_29, hm⟩ := gC_e hm
      refine va_iald hx hb hK hP 2 0 rfl rfl (inb_vp hi_29) d_Mo_told_125 ?_
      refine lv_iconst (v := (-1)) hx hb d_Mo_told_126 (by decide) ?_
      refine lv_icmp_ne (tgt := 134) hx hb d_Mo_told_127 (by decide) (fun c_30 => ?_) (fun c_30 => ?_)
      · have hm := ite_f c_30 hm
        refine lv_iconst (v := 1) hx hb d_Mo_told_134 (by decide) ?_
        refine lv_aload_n hx hb d_Mo_told_135 rfl (lv_at hl 0 rfl) ?_
        refine va_get (D := (dC, dI)) (ci := 8) (v := .ref a0_attempt) (C := R_Mo) (T := T_Mo) (N := 28) hx hb htt hin_Mo hown hK hP 0 rfl rfl 10 (by decide) (htt _ kt_779) (fun _ h9 => h9) rfl d_Mo_told_136 ?_
        refine lv_iload hx hb d_Mo_told_139 (lv_at hl 2 rfl) ?_
        obtain ⟨hi_31, hm⟩ := gC_e hm
        refine va_iald hx hb hK hP 2 0 rfl rfl (inb_vp hi_31) d_Mo_told_141 ?_
        refine lv_ishl hx hb d_Mo_told_142 ?_
        refine lv_ior hx hb d_Mo_told_143 ?_
        refine lv_topi (fun x3_32 ex3_32 => ?_)
        have hm := gB_at ex3_32 hm
        refine lv_istore_n (lv' := [(3, .int x3_32), (0, .ref a0), (4, .int x4_24)]) hx hb d_Mo_told_144 rfl hl (by decide) rfl (fun ls hl => ?_)
        obtain ⟨x4_33, ex4_33⟩ : ∃ y : Int32, y = x4_24 + 1 := ⟨_, rfl⟩
        have hm := gB_at ex4_33 hm
        refine lv_iinc (v := x4_33) (lv' := [(4, .int x4_33), (3, .int x3_32), (0, .ref a0)]) hx hb d_Mo_told_145 hl (k := 2) rfl (by rw [ex4_33]; rfl) (by decide) rfl (fun ls hl => ?_)
        refine lv_goto (tgt := 109) hx hb d_Mo_told_148 (by decide) ?_
        exact ih_109 _ hm _ _ rfl ls H locs (lv_sub hl [2, 1, 0] rfl) hP hD hS
      · have hm := ite_t c_30 hm
        refine lv_iconst (v := 0) hx hb d_Mo_told_130 (by decide) ?_
        refine lv_goto (tgt := 143) hx hb d_Mo_told_131 (by decide) ?_
        refine lv_ior hx hb d_Mo_told_143 ?_
        refine lv_topi (fun x3_34 ex3_34 => ?_)
        have hm := gB_at ex3_34 hm
        refine lv_istore_n (lv' := [(3, .int x3_34), (0, .ref a0), (4, .int x4_24)]) hx hb d_Mo_told_144 rfl hl (by decide) rfl (fun ls hl => ?_)
        obtain ⟨x4_35, ex4_35⟩ : ∃ y : Int32, y = x4_24 + 1 := ⟨_, rfl⟩
        have hm := gB_at ex4_35 hm
        refine lv_iinc (v := x4_35) (lv' := [(4, .int x4_35), (3, .int x3_34), (0, .ref a0)]) hx hb d_Mo_told_145 hl (k := 2) rfl (by rw [ex4_35]; rfl) (by decide) rfl (fun ls hl => ?_)
        refine lv_goto (tgt := 109) hx hb d_Mo_told_148 (by decide) ?_
        exact ih_109 _ hm _ _ rfl ls H locs (lv_sub hl [2, 1, 0] rfl) hP hD hS
  have hm := ite_f c_22 hm
  have hne : p1.toInt < 0 ∨ 4 < p1.toInt := by
    have nc_1 := lv_neT (a := 0) c_1 rfl
    have nc_2 := lv_neT (a := 1) c_2 rfl
    have nc_3 := lv_neT (a := 2) c_3 rfl
    have nc_18 := lv_neT (a := 3) c_18 rfl
    have nc_22 := lv_neT (a := 4) c_22 rfl
    omega
  refine lv_tableOut (tgt := 156) hx hb d_Mo_told_8 hne (by decide) ?_
  refine lv_iconst (v := (-1)) hx hb d_Mo_told_156 (by decide) ?_
  cases hm
  exact W.iret hx hb hr (fun t ht hW => ⟨⟨_, (), rfl, rfl, by rw [ht]; exact hP, va_K.moved hW.alike hK, hD⟩, hS.F ht⟩) hS.2.2 d_Mo_told_157
