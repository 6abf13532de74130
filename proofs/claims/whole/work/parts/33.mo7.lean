theorem d_Mo_greedy_0 : decode prog_10_method_43_code 0 = .ok (.aload_n 0, 1) := by decide +kernel
theorem d_Mo_greedy_1 : decode prog_10_method_43_code 1 = .ok (.iconst 0, 1) := by decide +kernel
theorem d_Mo_greedy_2 : decode prog_10_method_43_code 2 = .ok (.putfield 79, 3) := by decide +kernel
theorem d_Mo_greedy_5 : decode prog_10_method_43_code 5 = .ok (.iload_n 1, 1) := by decide +kernel
theorem d_Mo_greedy_6 : decode prog_10_method_43_code 6 = .ok (.ifCond .lt 8, 3) := by decide +kernel
theorem d_Mo_greedy_9 : decode prog_10_method_43_code 9 = .ok (.iload_n 1, 1) := by decide +kernel
theorem d_Mo_greedy_10 : decode prog_10_method_43_code 10 = .ok (.iconst 3, 1) := by decide +kernel
theorem d_Mo_greedy_11 : decode prog_10_method_43_code 11 = .ok (.if_icmp .le 5, 3) := by decide +kernel
theorem d_Mo_greedy_14 : decode prog_10_method_43_code 14 = .ok (.iconst (-1), 1) := by decide +kernel
theorem d_Mo_greedy_15 : decode prog_10_method_43_code 15 = .ok (.ireturn, 1) := by decide +kernel
theorem d_Mo_greedy_16 : decode prog_10_method_43_code 16 = .ok (.iconst 0, 1) := by decide +kernel
theorem d_Mo_greedy_17 : decode prog_10_method_43_code 17 = .ok (.istore_n 2, 1) := by decide +kernel
theorem d_Mo_greedy_18 : decode prog_10_method_43_code 18 = .ok (.iload_n 2, 1) := by decide +kernel
theorem d_Mo_greedy_19 : decode prog_10_method_43_code 19 = .ok (.bipush 12, 2) := by decide +kernel
theorem d_Mo_greedy_21 : decode prog_10_method_43_code 21 = .ok (.if_icmp .ge 30, 3) := by decide +kernel
theorem d_Mo_greedy_24 : decode prog_10_method_43_code 24 = .ok (.aload_n 0, 1) := by decide +kernel
theorem d_Mo_greedy_25 : decode prog_10_method_43_code 25 = .ok (.getfield 28, 3) := by decide +kernel
theorem d_Mo_greedy_28 : decode prog_10_method_43_code 28 = .ok (.iload_n 2, 1) := by decide +kernel
theorem d_Mo_greedy_29 : decode prog_10_method_43_code 29 = .ok (.iconst (-1), 1) := by decide +kernel
theorem d_Mo_greedy_30 : decode prog_10_method_43_code 30 = .ok (.iastore, 1) := by decide +kernel
theorem d_Mo_greedy_31 : decode prog_10_method_43_code 31 = .ok (.aload_n 0, 1) := by decide +kernel
theorem d_Mo_greedy_32 : decode prog_10_method_43_code 32 = .ok (.getfield 73, 3) := by decide +kernel
theorem d_Mo_greedy_35 : decode prog_10_method_43_code 35 = .ok (.iload_n 2, 1) := by decide +kernel
theorem d_Mo_greedy_36 : decode prog_10_method_43_code 36 = .ok (.iconst 0, 1) := by decide +kernel
theorem d_Mo_greedy_37 : decode prog_10_method_43_code 37 = .ok (.bastore, 1) := by decide +kernel
theorem d_Mo_greedy_38 : decode prog_10_method_43_code 38 = .ok (.aload_n 0, 1) := by decide +kernel
theorem d_Mo_greedy_39 : decode prog_10_method_43_code 39 = .ok (.getfield 70, 3) := by decide +kernel
theorem d_Mo_greedy_42 : decode prog_10_method_43_code 42 = .ok (.iload_n 2, 1) := by decide +kernel
theorem d_Mo_greedy_43 : decode prog_10_method_43_code 43 = .ok (.iload_n 2, 1) := by decide +kernel
theorem d_Mo_greedy_44 : decode prog_10_method_43_code 44 = .ok (.iastore, 1) := by decide +kernel
theorem d_Mo_greedy_45 : decode prog_10_method_43_code 45 = .ok (.iinc 2 1, 3) := by decide +kernel
theorem d_Mo_greedy_48 : decode prog_10_method_43_code 48 = .ok (.goto (-30), 3) := by decide +kernel
theorem d_Mo_greedy_51 : decode prog_10_method_43_code 51 = .ok (.iload_n 1, 1) := by decide +kernel
theorem d_Mo_greedy_52 : decode prog_10_method_43_code 52 = .ok (.iconst 1, 1) := by decide +kernel
theorem d_Mo_greedy_53 : decode prog_10_method_43_code 53 = .ok (.if_icmp .ne 10, 3) := by decide +kernel
theorem d_Mo_greedy_56 : decode prog_10_method_43_code 56 = .ok (.aload_n 0, 1) := by decide +kernel
theorem d_Mo_greedy_57 : decode prog_10_method_43_code 57 = .ok (.invokevirtual 156, 3) := by decide +kernel
theorem d_Mo_greedy_60 : decode prog_10_method_43_code 60 = .ok (.goto 12, 3) := by decide +kernel
theorem d_Mo_greedy_63 : decode prog_10_method_43_code 63 = .ok (.iload_n 1, 1) := by decide +kernel
theorem d_Mo_greedy_64 : decode prog_10_method_43_code 64 = .ok (.iconst 2, 1) := by decide +kernel
theorem d_Mo_greedy_65 : decode prog_10_method_43_code 65 = .ok (.if_icmp .ne 7, 3) := by decide +kernel
theorem d_Mo_greedy_68 : decode prog_10_method_43_code 68 = .ok (.aload_n 0, 1) := by decide +kernel
theorem d_Mo_greedy_69 : decode prog_10_method_43_code 69 = .ok (.invokevirtual 159, 3) := by decide +kernel
theorem d_Mo_greedy_72 : decode prog_10_method_43_code 72 = .ok (.iconst 0, 1) := by decide +kernel
theorem d_Mo_greedy_73 : decode prog_10_method_43_code 73 = .ok (.istore_n 2, 1) := by decide +kernel
theorem d_Mo_greedy_74 : decode prog_10_method_43_code 74 = .ok (.iconst 0, 1) := by decide +kernel
theorem d_Mo_greedy_75 : decode prog_10_method_43_code 75 = .ok (.istore_n 3, 1) := by decide +kernel
theorem d_Mo_greedy_76 : decode prog_10_method_43_code 76 = .ok (.iload_n 3, 1) := by decide +kernel
theorem d_Mo_greedy_77 : decode prog_10_method_43_code 77 = .ok (.aload_n 0, 1) := by decide +kernel
theorem d_Mo_greedy_78 : decode prog_10_method_43_code 78 = .ok (.getfield 86, 3) := by decide +kernel
theorem d_Mo_greedy_81 : decode prog_10_method_43_code 81 = .ok (.if_icmp .ge 47, 3) := by decide +kernel
theorem d_Mo_greedy_84 : decode prog_10_method_43_code 84 = .ok (.iload_n 1, 1) := by decide +kernel
theorem d_Mo_greedy_85 : decode prog_10_method_43_code 85 = .ok (.iconst 3, 1) := by decide +kernel
theorem d_Mo_greedy_86 : decode prog_10_method_43_code 86 = .ok (.if_icmp .ne 10, 3) := by decide +kernel
theorem d_Mo_greedy_89 : decode prog_10_method_43_code 89 = .ok (.aload_n 0, 1) := by decide +kernel
theorem d_Mo_greedy_90 : decode prog_10_method_43_code 90 = .ok (.invokevirtual 162, 3) := by decide +kernel
theorem d_Mo_greedy_93 : decode prog_10_method_43_code 93 = .ok (.goto 9, 3) := by decide +kernel
theorem d_Mo_greedy_96 : decode prog_10_method_43_code 96 = .ok (.aload_n 0, 1) := by decide +kernel
theorem d_Mo_greedy_97 : decode prog_10_method_43_code 97 = .ok (.getfield 70, 3) := by decide +kernel
theorem d_Mo_greedy_100 : decode prog_10_method_43_code 100 = .ok (.iload_n 3, 1) := by decide +kernel
theorem d_Mo_greedy_101 : decode prog_10_method_43_code 101 = .ok (.iaload, 1) := by decide +kernel
theorem d_Mo_greedy_102 : decode prog_10_method_43_code 102 = .ok (.istore 4, 2) := by decide +kernel
theorem d_Mo_greedy_104 : decode prog_10_method_43_code 104 = .ok (.aload_n 0, 1) := by decide +kernel
theorem d_Mo_greedy_105 : decode prog_10_method_43_code 105 = .ok (.iload 4, 2) := by decide +kernel
theorem d_Mo_greedy_107 : decode prog_10_method_43_code 107 = .ok (.invokevirtual 166, 3) := by decide +kernel
theorem d_Mo_greedy_110 : decode prog_10_method_43_code 110 = .ok (.iload_n 2, 1) := by decide +kernel
theorem d_Mo_greedy_111 : decode prog_10_method_43_code 111 = .ok (.iconst 1, 1) := by decide +kernel
theorem d_Mo_greedy_112 : decode prog_10_method_43_code 112 = .ok (.aload_n 0, 1) := by decide +kernel
theorem d_Mo_greedy_113 : decode prog_10_method_43_code 113 = .ok (.getfield 28, 3) := by decide +kernel
theorem d_Mo_greedy_116 : decode prog_10_method_43_code 116 = .ok (.iload 4, 2) := by decide +kernel
theorem d_Mo_greedy_118 : decode prog_10_method_43_code 118 = .ok (.iaload, 1) := by decide +kernel
theorem d_Mo_greedy_119 : decode prog_10_method_43_code 119 = .ok (.ishl, 1) := by decide +kernel
theorem d_Mo_greedy_120 : decode prog_10_method_43_code 120 = .ok (.ior, 1) := by decide +kernel
theorem d_Mo_greedy_121 : decode prog_10_method_43_code 121 = .ok (.istore_n 2, 1) := by decide +kernel
theorem d_Mo_greedy_122 : decode prog_10_method_43_code 122 = .ok (.iinc 3 1, 3) := by decide +kernel
theorem d_Mo_greedy_125 : decode prog_10_method_43_code 125 = .ok (.goto (-49), 3) := by decide +kernel
theorem d_Mo_greedy_128 : decode prog_10_method_43_code 128 = .ok (.iload_n 2, 1) := by decide +kernel
theorem d_Mo_greedy_129 : decode prog_10_method_43_code 129 = .ok (.invokestatic 145, 3) := by decide +kernel
theorem d_Mo_greedy_132 : decode prog_10_method_43_code 132 = .ok (.ireturn, 1) := by decide +kernel
abbrev wd_Mo_greedy (cI cJ cG cZ : ClassId) (a0 a0_from a0_to a0_near a0_lists a0_colours a0_shades a0_tints a0_attempt a0_taken a0_isApart a0_ways a0_next a0_splits a0_powers a0_row a0_many a0_can a0_could a0_arcRow a0_order a0_isOut : Nat) (v0_thrown : Int32) (v0_nodes : Int32) (v0_arcs : Int32) (v0_takenMany : Int32) (v0_leftBits : Int32) (v0_hasPolynomial : Int32) (v0_hasLists : Int32) (w0_near : Nat → Int32) (w0_tints : Nat → Int32) (w0_order : Nat → Int32) (w0_isOut : Nat → Int32) : va_W := [(a0, .inr (8, [.int v0_thrown, .int v0_nodes, .int v0_arcs, .ref a0_from, .ref a0_to, .ref a0_near, .ref a0_lists, .ref a0_colours, .ref a0_shades, .ref a0_tints, .ref a0_attempt, .int v0_takenMany, .ref a0_taken, .int v0_leftBits, .ref a0_isApart, .ref a0_ways, .ref a0_next, .ref a0_splits, .ref a0_powers, .ref a0_row, .ref a0_many, .int v0_hasPolynomial, .int v0_hasLists, .ref a0_can, .ref a0_could, .ref a0_arcRow, .ref a0_order, .ref a0_isOut])), (a0_near, .inl (cI, 12, .inl w0_near)), (a0_tints, .inl (cI, 12, .inl w0_tints)), (a0_order, .inl (cI, 12, .inl w0_order)), (a0_isOut, .inl (cZ, 12, .inl w0_isOut))]
abbrev us_Mo_greedy : List Cond := .code y_Mo_greedy prog_10_method_43_code 5 (some .int) :: gtbl
abbrev rm_Mo_greedy : Room := { frames := 3, cells := 0, slots := 0, locals := 69 }
def m_Mo_greedy (F : Nat) (v0_thrown : Int32) (v0_nodes : Int32) (v0_arcs : Int32) (v0_takenMany : Int32) (v0_leftBits : Int32) (v0_hasPolynomial : Int32) (v0_hasLists : Int32) (w0_near : Nat → Int32) (w0_tints : Nat → Int32) (w0_order : Nat → Int32) (w0_isOut : Nat → Int32) (p1 : Int32) : Option (Int32 × Int32 × (Nat → Int32) × (Nat → Int32) × (Nat → Int32)) :=
  if p1 < 0 then (
    some ((-1), 0, w0_tints, w0_order, w0_isOut)
  ) else (
    if p1 ≤ (3 : Int32) then (
      gL (fun (k_18 : (Int32 × (Nat → Int32) × (Nat → Int32) × (Nat → Int32)) → Option (Int32 × Int32 × (Nat → Int32) × (Nat → Int32) × (Nat → Int32))) (z_18 : Int32 × (Nat → Int32) × (Nat → Int32) × (Nat → Int32)) => match z_18 with
      | (x2_3, w0_tints_4, w0_order_5, w0_isOut_6) =>
      if (12 : Int32) ≤ x2_3 then (
        gB (α := (Nat → Int32) → (Nat → Int32) → Option (Int32 × Int32 × (Nat → Int32) × (Nat → Int32) × (Nat → Int32))) (fun w0_order_8 w0_isOut_9 =>
          gL (fun (k_76 : (Int32 × Int32 × (Nat → Int32)) → Option (Int32 × Int32 × (Nat → Int32) × (Nat → Int32) × (Nat → Int32))) (z_76 : Int32 × Int32 × (Nat → Int32)) => match z_76 with
          | (x2_10, x3_11, w0_tints_12) =>
          if v0_nodes ≤ x3_11 then (
            gM (m_Mo_count F x2_10) (fun q_14 =>
            some (q_14, 0, w0_tints_12, w0_order_8, w0_isOut_9))
          ) else (
            gB (α := Int32 → Option (Int32 × Int32 × (Nat → Int32) × (Nat → Int32) × (Nat → Int32))) (fun s_17 =>
              gM (m_Mo_tintNode F 0 v0_nodes v0_arcs v0_takenMany v0_leftBits v0_hasPolynomial v0_hasLists w0_near w0_tints_12 s_17) (fun w0_tints_18 =>
              gC (inb s_17 12) (
              gB (x2_10 ||| ((1 : Int32) <<< ((w0_tints_18 s_17.toNatClampNeg) &&& 31))) (fun x2_21 =>
              gB (x3_11 + 1) (fun x3_22 =>
              k_76 (x2_21, x3_22, w0_tints_18)))))
            ) (fun J_102 =>
            if p1 = (3 : Int32) then (
              gM (m_Mo_nextByColours F 0 v0_nodes v0_arcs v0_takenMany v0_leftBits v0_hasPolynomial v0_hasLists w0_near w0_tints_12) (fun q_25 =>
              J_102 q_25)
            ) else (
              gC (inb x3_11 12) (
              J_102 (w0_order_8 x3_11.toNatClampNeg))
            )
            )
          )
          ) F (0, 0, w0_tints_4)
        ) (fun J_72 =>
        if p1 = (1 : Int32) then (
          gM (m_Mo_orderByNear F 0 v0_nodes v0_arcs v0_takenMany v0_leftBits v0_hasPolynomial v0_hasLists w0_near w0_order_5 w0_isOut_6) (fun (z_35 : (Nat → Int32) × (Nat → Int32)) => match z_35 with
          | (w0_order_32, w0_isOut_33) =>
          J_72 w0_order_32 w0_isOut_33)
        ) else (
          if p1 = (2 : Int32) then (
            gM (m_Mo_orderBackwards F 0 v0_nodes v0_arcs v0_takenMany v0_leftBits v0_hasPolynomial v0_hasLists w0_near w0_order_5) (fun w0_order_30 =>
            J_72 w0_order_30 w0_isOut_6)
          ) else (
            J_72 w0_order_5 w0_isOut_6
          )
        )
        )
      ) else (
        gC (inb x2_3 12) (
        gC (inb x2_3 12) (
        gC (inb x2_3 12) (
        gB (x2_3 + 1) (fun x2_39 =>
        k_18 (x2_39, upd w0_tints_4 x2_3.toNatClampNeg (-1), upd w0_order_5 x2_3.toNatClampNeg x2_3, upd w0_isOut_6 x2_3.toNatClampNeg (vp_nar .boolean 0))))))
      )
      ) F (0, w0_tints, w0_order, w0_isOut)
    ) else (
      some ((-1), 0, w0_tints, w0_order, w0_isOut)
    )
  )
set_option maxHeartbeats 4000000 in
set_option maxRecDepth 100000 in
theorem c_Mo_greedy (l : Launch) (dC : Nat → ClassId) (dI : Nat → Nat → Nat) (cI cJ cG cZ : ClassId) (a0 a0_from a0_to a0_near a0_lists a0_colours a0_shades a0_tints a0_attempt a0_taken a0_isApart a0_ways a0_next a0_splits a0_powers a0_row a0_many a0_can a0_could a0_arcRow a0_order a0_isOut : Nat) (sz : Nat) (F : Nat) (v0_thrown : Int32) (v0_nodes : Int32) (v0_arcs : Int32) (v0_takenMany : Int32) (v0_leftBits : Int32) (v0_hasPolynomial : Int32) (v0_hasLists : Int32) (w0_near : Nat → Int32) (w0_tints : Nat → Int32) (w0_order : Nat → Int32) (w0_isOut : Nat → Int32) (p1 : Int32) (ret : Int32) (o_v0_thrown : Int32) (o_w0_tints : Nat → Int32) (o_w0_order : Nat → Int32) (o_w0_isOut : Nat → Int32) (hm : m_Mo_greedy F v0_thrown v0_nodes v0_arcs v0_takenMany v0_leftBits v0_hasPolynomial v0_hasLists w0_near w0_tints w0_order w0_isOut p1 = some (ret, o_v0_thrown, o_w0_tints, o_w0_order, o_w0_isOut)) : Met l y_Mo_greedy us_Mo_greedy rm_Mo_greedy (PcS (dC, dI) (tyL cI cJ cG cZ) [.ref a0, .int p1] sz (wd_Mo_greedy cI cJ cG cZ a0 a0_from a0_to a0_near a0_lists a0_colours a0_shades a0_tints a0_attempt a0_taken a0_isApart a0_ways a0_next a0_splits a0_powers a0_row a0_many a0_can a0_could a0_arcRow a0_order a0_isOut v0_thrown v0_nodes v0_arcs v0_takenMany v0_leftBits v0_hasPolynomial v0_hasLists w0_near w0_tints w0_order w0_isOut)) (va_Qi (fun (r : Int32) (_ : Unit) => ret = r) (fun _ t => PoS (dC, dI) (tyL cI cJ cG cZ) (wd_Mo_greedy cI cJ cG cZ a0 a0_from a0_to a0_near a0_lists a0_colours a0_shades a0_tints a0_attempt a0_taken a0_isApart a0_ways a0_next a0_splits a0_powers a0_row a0_many a0_can a0_could a0_arcRow a0_order a0_isOut o_v0_thrown v0_nodes v0_arcs v0_takenMany v0_leftBits v0_hasPolynomial v0_hasLists w0_near o_w0_tints o_w0_order o_w0_isOut) (va_A (wd_Mo_greedy cI cJ cG cZ a0 a0_from a0_to a0_near a0_lists a0_colours a0_shades a0_tints a0_attempt a0_taken a0_isApart a0_ways a0_next a0_splits a0_powers a0_row a0_many a0_can a0_could a0_arcRow a0_order a0_isOut v0_thrown v0_nodes v0_arcs v0_takenMany v0_leftBits v0_hasPolynomial v0_hasLists w0_near w0_tints w0_order w0_isOut) sz) t) (va_A (wd_Mo_greedy cI cJ cG cZ a0 a0_from a0_to a0_near a0_lists a0_colours a0_shades a0_tints a0_attempt a0_taken a0_isApart a0_ways a0_next a0_splits a0_powers a0_row a0_many a0_can a0_could a0_arcRow a0_order a0_isOut v0_thrown v0_nodes v0_arcs v0_takenMany v0_leftBits v0_hasPolynomial v0_hasLists w0_near w0_tints w0_order w0_isOut) sz)) 0 0 (va_A (wd_Mo_greedy cI cJ cG cZ a0 a0_from a0_to a0_near a0_lists a0_colours a0_shades a0_tints a0_attempt a0_taken a0_isApart a0_ways a0_next a0_splits a0_powers a0_row a0_many a0_can a0_could a0_arcRow a0_order a0_isOut v0_thrown v0_nodes v0_arcs v0_takenMany v0_leftBits v0_hasPolynomial v0_hasLists w0_near w0_tints w0_order w0_isOut) sz) := by
  refine Met.ofW (cc := prog_10_method_43_code) (maxL := 5) (ret := (some .int)) (by decide) rfl ?_
  intro p e s m args below meth c s₁ B hml hv
  obtain ⟨rfl, hsz, hP, hK, hD0, hNw⟩ := hv
  have hx := B.exec
  have hb := B.bytes
  have hr := B.returns
  have htt : ∀ w ∈ gtbl, w.before _ s = true := fun w h => atoms_spec (ws := us_Mo_greedy) B.pre w (List.mem_cons_of_mem _ h)
  have hown : s.vm.findClass R_Mo = some m.cls := findClass_of_methodNamed B.named
  have hlocks := B.notSynchronized
  subst hsz
  have hD := hD0.self (sz := s.heap.size)
  generalize hAe : va_A (wd_Mo_greedy cI cJ cG cZ a0 a0_from a0_to a0_near a0_lists a0_colours a0_shades a0_tints a0_attempt a0_taken a0_isApart a0_ways a0_next a0_splits a0_powers a0_row a0_many a0_can a0_could a0_arcRow a0_order a0_isOut v0_thrown v0_nodes v0_arcs v0_takenMany v0_leftBits v0_hasPolynomial v0_hasLists w0_near w0_tints w0_order w0_isOut) s.heap.size = A at hD ⊢
  have hA : ∀ q : Nat, s.heap.size ≤ q → A q := fun q h => by rw [← hAe]; exact Or.inr h
  clear hAe hD0
  have hS : va_S A s.heap s.heap [] := va_S.rf
  have hl := lv_entry ([.ref a0, .int p1]) (n := 5) (Nat.le_of_ble_eq_true rfl)
  rw [lg_entry_eq]
  generalize (lg_sl ([.ref a0, .int p1]) ++ List.replicate (5 - (lg_sl ([.ref a0, .int p1])).length) Slot.unset).toArray = ls at hl ⊢
  have hl : lv_has ls 5 [(0, .ref a0), (1, .int p1)] := hl
  generalize hH : s.heap = H at hP ⊢
  have hS : va_S A s.heap H [] := hH ▸ hS
  generalize hLo : ([] : List Loc) = locs at hS ⊢
  clear hH hLo
  unfold m_Mo_greedy at hm
  refine lv_aload_n hx hb d_Mo_greedy_0 rfl (lv_at hl 0 rfl) ?_
  refine lv_iconst (v := 0) hx hb d_Mo_greedy_1 (by decide) ?_
  refine va_put (D := (dC, dI)) (ci := 8) (v := .int 0) (ty := .int) (C := R_Mo) (T := T_Mo) (N := 28) hx hb htt hin_Mo ty_Mo tyok_Mo nm_Mo hown hK hP hD hS 0 rfl rfl 0 (by decide) (htt _ kt_769) (fun _ h9 => h9) rfl (by decide +kernel) rfl rfl (Nat.le_of_ble_eq_true rfl) d_Mo_greedy_2 (fun H locs hP hD hS => ?_)
  have hP : va_P (dC, dI) vwCl (wd_Mo_greedy cI cJ cG cZ a0 a0_from a0_to a0_near a0_lists a0_colours a0_shades a0_tints a0_attempt a0_taken a0_isApart a0_ways a0_next a0_splits a0_powers a0_row a0_many a0_can a0_could a0_arcRow a0_order a0_isOut 0 v0_nodes v0_arcs v0_takenMany v0_leftBits v0_hasPolynomial v0_hasLists w0_near w0_tints w0_order w0_isOut) H := hP
  have hD : va_D A (wd_Mo_greedy cI cJ cG cZ a0 a0_from a0_to a0_near a0_lists a0_colours a0_shades a0_tints a0_attempt a0_taken a0_isApart a0_ways a0_next a0_splits a0_powers a0_row a0_many a0_can a0_could a0_arcRow a0_order a0_isOut 0 v0_nodes v0_arcs v0_takenMany v0_leftBits v0_hasPolynomial v0_hasLists w0_near w0_tints w0_order w0_isOut) := hD
  refine lv_iload_n hx hb d_Mo_greedy_5 rfl (lv_at hl 1 rfl) ?_
  refine lv_if_lt (tgt := 14) hx hb d_Mo_greedy_6 (by decide) (fun c_1 => ?_) (fun c_1 => ?_)
  · have hm := ite_t c_1 hm
    refine lv_iconst (v := (-1)) hx hb d_Mo_greedy_14 (by decide) ?_
    cases hm
    exact W.iret hx hb hr (fun t ht hW => ⟨⟨_, (), rfl, rfl, by rw [ht]; exact hP, va_K.moved hW.alike hK, hD⟩, hS.F ht⟩) hS.2.2 d_Mo_greedy_15
  · have hm := ite_f c_1 hm
    refine lv_iload_n hx hb d_Mo_greedy_9 rfl (lv_at hl 1 rfl) ?_
    refine lv_iconst (v := 3) hx hb d_Mo_greedy_10 (by decide) ?_
    refine lv_icmp_le (tgt := 16) hx hb d_Mo_greedy_11 (by decide) (fun c_2 => ?_) (fun c_2 => ?_)
    · have hm := ite_t c_2 hm
      refine lv_iconst (v := 0) hx hb d_Mo_greedy_16 (by decide) ?_
      refine lv_istore_n (lv' := [(2, .int 0), (0, .ref a0), (1, .int p1)]) hx hb d_Mo_greedy_17 rfl hl (by decide) rfl (fun ls hl => ?_)
      refine gL_e (P := (fun (z_18 : Int32 × (Nat → Int32) × (Nat → Int32) × (Nat → Int32)) => ∀ (x2_3 : Int32), ∀ (w0_tints_4 : Nat → Int32), ∀ (w0_order_5 : Nat → Int32), ∀ (w0_isOut_6 : Nat → Int32), z_18 = (x2_3, w0_tints_4, w0_order_5, w0_isOut_6) → ∀ (ls : Array Slot) (H : Heap) (locs : List Loc), lv_has ls 5 [(0, .ref a0), (1, .int p1), (2, .int x2_3)] → va_P (dC, dI) vwCl (wd_Mo_greedy cI cJ cG cZ a0 a0_from a0_to a0_near a0_lists a0_colours a0_shades a0_tints a0_attempt a0_taken a0_isApart a0_ways a0_next a0_splits a0_powers a0_row a0_many a0_can a0_could a0_arcRow a0_order a0_isOut 0 v0_nodes v0_arcs v0_takenMany v0_leftBits v0_hasPolynomial v0_hasLists w0_near w0_tints_4 w0_order_5 w0_isOut_6) H → va_D A (wd_Mo_greedy cI cJ cG cZ a0 a0_from a0_to a0_near a0_lists a0_colours a0_shades a0_tints a0_attempt a0_taken a0_isApart a0_ways a0_next a0_splits a0_powers a0_row a0_many a0_can a0_could a0_arcRow a0_order a0_isOut 0 v0_nodes v0_arcs v0_takenMany v0_leftBits v0_hasPolynomial v0_hasLists w0_near w0_tints_4 w0_order_5 w0_isOut_6) → va_S A s.heap H locs → W p l e (headSpec us_Mo_greedy rm_Mo_greedy).room s m ([.ref a0, .int p1] : List Value).toArray below meth c H locs 0 0 (MQ below (va_Qi (fun (r : Int32) (_ : Unit) => ret = r) (fun _ t => PoS (dC, dI) (tyL cI cJ cG cZ) (wd_Mo_greedy cI cJ cG cZ a0 a0_from a0_to a0_near a0_lists a0_colours a0_shades a0_tints a0_attempt a0_taken a0_isApart a0_ways a0_next a0_splits a0_powers a0_row a0_many a0_can a0_could a0_arcRow a0_order a0_isOut o_v0_thrown v0_nodes v0_arcs v0_takenMany v0_leftBits v0_hasPolynomial v0_hasLists w0_near o_w0_tints o_w0_order o_w0_isOut) A t) A) ([.ref a0, .int p1] : List Value).toArray s 0 0 A) (F0 m 18 ls []))) hm (fun k_18 z_18 ih_18 hm => ?_) _ _ _ _ rfl ls H locs (lv_sub hl [1, 2, 0] rfl) hP hD hS
      intro x2_3 w0_tints_4 w0_order_5 w0_isOut_6 hz ls H locs hl hP hD hS
      subst hz
      dsimp only at hm
      refine lv_iload_n hx hb d_Mo_greedy_18 rfl (lv_at hl 2 rfl) ?_
      refine lv_bipush (v := 12) hx hb d_Mo_greedy_19 (by decide) ?_
      refine lv_icmp_ge (tgt := 51) hx hb d_Mo_greedy_21 (by decide) (fun c_7 => ?_) (fun c_7 => ?_)
      · have hm := ite_t c_7 hm
        refine lv_iload_n hx hb d_Mo_greedy_51 rfl (lv_at hl 1 rfl) ?_
        refine lv_iconst (v := 1) hx hb d_Mo_greedy_52 (by decide) ?_
        obtain ⟨J_72, hJ_72, hm⟩ := gB_x hm
        have jp_72 : ∀ (w0_order_8 : Nat → Int32) (w0_isOut_9 : Nat → Int32) (ls : Array Slot) (H : Heap) (locs : List Loc), J_72 w0_order_8 w0_isOut_9 = some (ret, o_v0_thrown, o_w0_tints, o_w0_order, o_w0_isOut) → lv_has ls 5 [(0, .ref a0), (1, .int p1)] → va_P (dC, dI) vwCl (wd_Mo_greedy cI cJ cG cZ a0 a0_from a0_to a0_near a0_lists a0_colours a0_shades a0_tints a0_attempt a0_taken a0_isApart a0_ways a0_next a0_splits a0_powers a0_row a0_many a0_can a0_could a0_arcRow a0_order a0_isOut 0 v0_nodes v0_arcs v0_takenMany v0_leftBits v0_hasPolynomial v0_hasLists w0_near w0_tints_4 w0_order_8 w0_isOut_9) H → va_D A (wd_Mo_greedy cI cJ cG cZ a0 a0_from a0_to a0_near a0_lists a0_colours a0_shades a0_tints a0_attempt a0_taken a0_isApart a0_ways a0_next a0_splits a0_powers a0_row a0_many a0_can a0_could a0_arcRow a0_order a0_isOut 0 v0_nodes v0_arcs v0_takenMany v0_leftBits v0_hasPolynomial v0_hasLists w0_near w0_tints_4 w0_order_8 w0_isOut_9) → va_S A s.heap H locs → W p l e (headSpec us_Mo_greedy rm_Mo_greedy).room s m ([.ref a0, .int p1] : List Value).toArray below meth c H locs 0 0 (MQ below (va_Qi (fun (r : Int32) (_ : Unit) => ret = r) (fun _ t => PoS (dC, dI) (tyL cI cJ cG cZ) (wd_Mo_greedy cI cJ cG cZ a0 a0_from a0_to a0_near a0_lists a0_colours a0_shades a0_tints a0_attempt a0_taken a0_isApart a0_ways a0_next a0_splits a0_powers a0_row a0_many a0_can a0_could a0_arcRow a0_order a0_isOut o_v0_thrown v0_nodes v0_arcs v0_takenMany v0_leftBits v0_hasPolynomial v0_hasLists w0_near o_w0_tints o_w0_order o_w0_isOut) A t) A) ([.ref a0, .int p1] : List Value).toArray s 0 0 A) (F0 m 72 ls []) := by
          intro w0_order_8 w0_isOut_9 ls H locs hm hl hP hD hS
          have hm := jn2 hJ_72 hm
          refine lv_iconst (v := 0) hx hb d_Mo_greedy_72 (by decide) ?_
          refine lv_istore_n (lv' := [(2, .int 0), (0, .ref a0), (1, .int p1)]) hx hb d_Mo_greedy_73 rfl hl (by decide) rfl (fun ls hl => ?_)
          refine lv_iconst (v := 0) hx hb d_Mo_greedy_74 (by decide) ?_
          refine lv_istore_n (lv' := [(3, .int 0), (2, .int 0), (0, .ref a0), (1, .int p1)]) hx hb d_Mo_greedy_75 rfl hl (by decide) rfl (fun ls hl => ?_)
          refine gL_e (P := (fun (z_76 : Int32 × Int32 × (Nat → Int32)) => ∀ (x2_10 : Int32), ∀ (x3_11 : Int32), ∀ (w0_tints_12 : Nat → Int32), z_76 = (x2_10, x3_11, w0_tints_12) → ∀ (ls : Array Slot) (H : Heap) (locs : List Loc), lv_has ls 5 [(0, .ref a0), (1, .int p1), (2, .int x2_10), (3, .int x3_11)] → va_P (dC, dI) vwCl (wd_Mo_greedy cI cJ cG cZ a0 a0_from a0_to a0_near a0_lists a0_colours a0_shades a0_tints a0_attempt a0_taken a0_isApart a0_ways a0_next a0_splits a0_powers a0_row a0_many a0_can a0_could a0_arcRow a0_order a0_isOut 0 v0_nodes v0_arcs v0_takenMany v0_leftBits v0_hasPolynomial v0_hasLists w0_near w0_tints_12 w0_order_8 w0_isOut_9) H → va_D A (wd_Mo_greedy cI cJ cG cZ a0 a0_from a0_to a0_near a0_lists a0_colours a0_shades a0_tints a0_attempt a0_taken a0_isApart a0_ways a0_next a0_splits a0_powers a0_row a0_many a0_can a0_could a0_arcRow a0_order a0_isOut 0 v0_nodes v0_arcs v0_takenMany v0_leftBits v0_hasPolynomial v0_hasLists w0_near w0_tints_12 w0_order_8 w0_isOut_9) → va_S A s.heap H locs → W p l e (headSpec us_Mo_greedy rm_Mo_greedy).room s m ([.ref a0, .int p1] : List Value).toArray below meth c H locs 0 0 (MQ below (va_Qi (fun (r : Int32) (_ : Unit) => ret = r) (fun _ t => PoS (dC, dI) (tyL cI cJ cG cZ) (wd_Mo_greedy cI cJ cG cZ a0 a0_from a0_to a0_near a0_lists a0_colours a0_shades a0_tints a0_attempt a0_taken a0_isApart a0_ways a0_next a0_splits a0_powers a0_row a0_many a0_can a0_could a0_arcRow a0_order a0_isOut o_v0_thrown v0_nodes v0_arcs v0_takenMany v0_leftBits v0_hasPolynomial v0_hasLists w0_near o_w0_tints o_w0_order o_w0_isOut) A t) A) ([.ref a0, .int p1] : List Value).toArray s 0 0 A) (F0 m 76 ls []))) hm (fun k_76 z_76 ih_76 hm => ?_) _ _ _ rfl ls H locs (lv_sub hl [2, 3, 1, 0] rfl) hP hD hS
          intro x2_10 x3_11 w0_tints_12 hz ls H locs hl hP hD hS
          subst hz
          dsimp only at hm
          refine lv_iload_n hx hb d_Mo_greedy_76 rfl (lv_at hl 3 rfl) ?_
          refine lv_aload_n hx hb d_Mo_greedy_77 rfl (lv_at hl 0 rfl) ?_
          refine va_get (D := (dC, dI)) (ci := 8) (v := .int v0_nodes) (C := R_Mo) (T := T_Mo) (N := 28) hx hb htt hin_Mo hown hK hP 0 rfl rfl 1 (by decide) (htt _ kt_770) (fun _ h9 => h9) rfl d_Mo_greedy_78 ?_
          refine lv_icmp_ge (tgt := 128) hx hb d_Mo_greedy_81 (by decide) (fun c_13 => ?_) (fun c_13 => ?_)
          · have hm := ite_t c_13 hm
            refine lv_iload_n hx hb d_Mo_greedy_128 rfl (lv_at hl 2 rfl) ?_
            obtain ⟨q_14, hc_15, hm⟩ := gM_e hm
            have hPc : va_P (dC, dI) vwCl (wd_Mo_count cI cJ cG cZ) H := hP.sub [] rfl
            have hDc : va_D A (wd_Mo_count cI cJ cG cZ) := hD.sub [] (by decide) rfl
            have hFc : ∀ q, va_A (wd_Mo_count cI cJ cG cZ) H.size q → A q := va_free hD hS hA [] rfl
            refine va_calli (va_runS (As := [.int x2_10]) (rest := []) ⟨hx, hb, hml, hown, htt⟩ (c_Mo_count l dC dI cI cJ cG cZ H.size F x2_10 q_14 hc_15) (cwS 1 htt (gdS kt_972 kt_973 kt_10 kt_974) rfl rfl rfl (by decide +kernel) ⟨(Nat.le_of_ble_eq_true rfl), (Nat.le_of_ble_eq_true rfl)⟩) ⟨PcS_blind, PcS_in hPc hK hDc hNw⟩ rfl rfl hl.1 rfl (lv_room (Nat.le_of_ble_eq_true rfl)) d_Mo_greedy_129 ⟨Nat.zero_le _, Nat.zero_le _⟩) hS (fun q _ h => hFc q h) hFc (fun r_16 u t H1 locs ht hvm hw hB hz1 hk1 hS => ?_)
            obtain ⟨hP1, hK1, hD1⟩ := hB
            rw [ht] at hP1
            subst hw
            obtain ⟨hP, hD⟩ := va_join (wr := [(a0, .inr (8, [.int 0, .int v0_nodes, .int v0_arcs, .ref a0_from, .ref a0_to, .ref a0_near, .ref a0_lists, .ref a0_colours, .ref a0_shades, .ref a0_tints, .ref a0_attempt, .int v0_takenMany, .ref a0_taken, .int v0_leftBits, .ref a0_isApart, .ref a0_ways, .ref a0_next, .ref a0_splits, .ref a0_powers, .ref a0_row, .ref a0_many, .int v0_hasPolynomial, .int v0_hasLists, .ref a0_can, .ref a0_could, .ref a0_arcRow, .ref a0_order, .ref a0_isOut])), (a0_near, .inl (cI, 12, .inl w0_near)), (a0_tints, .inl (cI, 12, .inl w0_tints_12)), (a0_order, .inl (cI, 12, .inl w0_order_8)), (a0_isOut, .inl (cZ, 12, .inl w0_isOut_9))]) (w1 := (wd_Mo_count cI cJ cG cZ)) hP hD [] [0, 1, 2, 3, 4] rfl rfl (by decide) (by decide) hk1 hFc hP1 hD1
            have hP : va_P (dC, dI) vwCl (wd_Mo_greedy cI cJ cG cZ a0 a0_from a0_to a0_near a0_lists a0_colours a0_shades a0_tints a0_attempt a0_taken a0_isApart a0_ways a0_next a0_splits a0_powers a0_row a0_many a0_can a0_could a0_arcRow a0_order a0_isOut 0 v0_nodes v0_arcs v0_takenMany v0_leftBits v0_hasPolynomial v0_hasLists w0_near w0_tints_12 w0_order_8 w0_isOut_9) H1 := hP.sub [0, 1, 2, 3, 4] rfl
            have hD : va_D A (wd_Mo_greedy cI cJ cG cZ a0 a0_from a0_to a0_near a0_lists a0_colours a0_shades a0_tints a0_attempt a0_taken a0_isApart a0_ways a0_next a0_splits a0_powers a0_row a0_many a0_can a0_could a0_arcRow a0_order a0_isOut 0 v0_nodes v0_arcs v0_takenMany v0_leftBits v0_hasPolynomial v0_hasLists w0_near w0_tints_12 w0_order_8 w0_isOut_9) := hD.sub [0, 1, 2, 3, 4] (by decide) rfl
            clear hP1 hK1 hD1 hk1 hPc hDc hFc ht hvm hz1
            generalize H1 = H at hP hS ⊢
            cases hm
            exact W.iret hx hb hr (fun t ht hW => ⟨⟨_, (), rfl, rfl, by rw [ht]; exact hP, va_K.moved hW.alike hK, hD⟩, hS.F ht⟩) hS.2.2 d_Mo_greedy_132
          · have hm := ite_f c_13 hm
            refine lv_iload_n hx hb d_Mo_greedy_84 rfl (lv_at hl 1 rfl) ?_
            refine lv_iconst (v := 3) hx hb d_Mo_greedy_85 (by decide) ?_
            obtain ⟨J_102, hJ_102, hm⟩ := gB_x hm
            have jp_102 : ∀ (s_17 : Int32) (ls : Array Slot) (H : Heap) (locs : List Loc), J_102 s_17 = some (ret, o_v0_thrown, o_w0_tints, o_w0_order, o_w0_isOut) → lv_has ls 5 [(0, .ref a0), (1, .int p1), (2, .int x2_10), (3, .int x3_11)] → va_P (dC, dI) vwCl (wd_Mo_greedy cI cJ cG cZ a0 a0_from a0_to a0_near a0_lists a0_colours a0_shades a0_tints a0_attempt a0_taken a0_isApart a0_ways a0_next a0_splits a0_powers a0_row a0_many a0_can a0_could a0_arcRow a0_order a0_isOut 0 v0_nodes v0_arcs v0_takenMany v0_leftBits v0_hasPolynomial v0_hasLists w0_near w0_tints_12 w0_order_8 w0_isOut_9) H → va_D A (wd_Mo_greedy cI cJ cG cZ a0 a0_from a0_to a0_near a0_lists a0_colours a0_shades a0_tints a0_attempt a0_taken a0_isApart a0_ways a0_next a0_splits a0_powers a0_row a0_many a0_can a0_could a0_arcRow a0_order a0_isOut 0 v0_nodes v0_arcs v0_takenMany v0_leftBits v0_hasPolynomial v0_hasLists w0_near w0_tints_12 w0_order_8 w0_isOut_9) → va_S A s.heap H locs → W p l e (headSpec us_Mo_greedy rm_Mo_greedy).room s m ([.ref a0, .int p1] : List Value).toArray below meth c H locs 0 0 (MQ below (va_Qi (fun (r : Int32) (_ : Unit) => ret = r) (fun _ t => PoS (dC, dI) (tyL cI cJ cG cZ) (wd_Mo_greedy cI cJ cG cZ a0 a0_from a0_to a0_near a0_lists a0_colours a0_shades a0_tints a0_attempt a0_taken a0_isApart a0_ways a0_next a0_splits a0_powers a0_row a0_many a0_can a0_could a0_arcRow a0_order a0_isOut o_v0_thrown v0_nodes v0_arcs v0_takenMany v0_leftBits v0_hasPolynomial v0_hasLists w0_near o_w0_tints o_w0_order o_w0_isOut) A t) A) ([.ref a0, .int p1] : List Value).toArray s 0 0 A) (F0 m 102 ls [.int s_17]) := by
              intro s_17 ls H locs hm hl hP hD hS
              have hm := jn1 hJ_102 hm
              refine lv_istore (lv' := [(4, .int s_17), (0, .ref a0), (1, .int p1), (2, .int x2_10), (3, .int x3_11)]) hx hb d_Mo_greedy_102 hl (by decide) rfl (fun ls hl => ?_)
              refine lv_aload_n hx hb d_Mo_greedy_104 rfl (lv_at hl 1 rfl) ?_
              refine lv_iload hx hb d_Mo_greedy_105 (lv_at hl 0 rfl) ?_
              obtain ⟨w0_tints_18, hc_19, hm⟩ := gM_e hm
              have hPc : va_P (dC, dI) vwCl (wd_Mo_tintNode cI cJ cG cZ a0 a0_from a0_to a0_near a0_lists a0_colours a0_shades a0_tints a0_attempt a0_taken a0_isApart a0_ways a0_next a0_splits a0_powers a0_row a0_many a0_can a0_could a0_arcRow a0_order a0_isOut 0 v0_nodes v0_arcs v0_takenMany v0_leftBits v0_hasPolynomial v0_hasLists w0_near w0_tints_12) H := hP.sub [0, 1, 2] rfl
              have hDc : va_D A (wd_Mo_tintNode cI cJ cG cZ a0 a0_from a0_to a0_near a0_lists a0_colours a0_shades a0_tints a0_attempt a0_taken a0_isApart a0_ways a0_next a0_splits a0_powers a0_row a0_many a0_can a0_could a0_arcRow a0_order a0_isOut 0 v0_nodes v0_arcs v0_takenMany v0_leftBits v0_hasPolynomial v0_hasLists w0_near w0_tints_12) := hD.sub [0, 1, 2] (by decide) rfl
              have hFc : ∀ q, va_A (wd_Mo_tintNode cI cJ cG cZ a0 a0_from a0_to a0_near a0_lists a0_colours a0_shades a0_tints a0_attempt a0_taken a0_isApart a0_ways a0_next a0_splits a0_powers a0_row a0_many a0_can a0_could a0_arcRow a0_order a0_isOut 0 v0_nodes v0_arcs v0_takenMany v0_leftBits v0_hasPolynomial v0_hasLists w0_near w0_tints_12) H.size q → A q := va_free hD hS hA [0, 1, 2] rfl
              refine va_callv (va_runV (As := [.int s_17]) (rest := []) ⟨hx, hb, hml, hown, htt⟩ (c_Mo_tintNode l dC dI cI cJ cG cZ a0 a0_from a0_to a0_near a0_lists a0_colours a0_shades a0_tints a0_attempt a0_taken a0_isApart a0_ways a0_next a0_splits a0_powers a0_row a0_many a0_can a0_could a0_arcRow a0_order a0_isOut H.size F 0 v0_nodes v0_arcs v0_takenMany v0_leftBits v0_hasPolynomial v0_hasLists w0_near w0_tints_12 s_17 w0_tints_18 hc_19) (cwV 1 htt (gdV kt_1011 kt_1013 kp_60 kt_10 kt_1014) rfl rfl rfl (by decide +kernel) ⟨(Nat.le_of_ble_eq_true rfl), (Nat.le_of_ble_eq_true rfl)⟩) ⟨PcS_blind, va_recv hK hPc (ci := 8) (q0 := 0) rfl rfl, PcS_in hPc hK hDc hNw⟩ rfl rfl hl.1 rfl (lv_room (Nat.le_of_ble_eq_true rfl)) d_Mo_greedy_107 ⟨Nat.zero_le _, Nat.zero_le _⟩) hS (fun q _ h => hFc q h) hFc (fun u t H1 locs ht hvm hw hB hz1 hk1 hS => ?_)
              obtain ⟨hP1, hK1, hD1⟩ := hB
              rw [ht] at hP1
              obtain ⟨hP, hD⟩ := va_join (wr := [(a0_order, .inl (cI, 12, .inl w0_order_8)), (a0_isOut, .inl (cZ, 12, .inl w0_isOut_9))]) (w1 := (wd_Mo_tintNode cI cJ cG cZ a0 a0_from a0_to a0_near a0_lists a0_colours a0_shades a0_tints a0_attempt a0_taken a0_isApart a0_ways a0_next a0_splits a0_powers a0_row a0_many a0_can a0_could a0_arcRow a0_order a0_isOut 0 v0_nodes v0_arcs v0_takenMany v0_leftBits v0_hasPolynomial v0_hasLists w0_near w0_tints_18)) hP hD [0, 1, 2] [3, 4] rfl rfl (by decide) (by decide) hk1 hFc hP1 hD1
              have hP : va_P (dC, dI) vwCl (wd_Mo_greedy cI cJ cG cZ a0 a0_from a0_to a0_near a0_lists a0_colours a0_shades a0_tints a0_attempt a0_taken a0_isApart a0_ways a0_next a0_splits a0_powers a0_row a0_many a0_can a0_could a0_arcRow a0_order a0_isOut 0 v0_nodes v0_arcs v0_takenMany v0_leftBits v0_hasPolynomial v0_hasLists w0_near w0_tints_18 w0_order_8 w0_isOut_9) H1 := hP.sub [2, 3, 4, 0, 1] rfl
              have hD : va_D A (wd_Mo_greedy cI cJ cG cZ a0 a0_from a0_to a0_near a0_lists a0_colours a0_shades a0_tints a0_attempt a0_taken a0_isApart a0_ways a0_next a0_splits a0_powers a0_row a0_many a0_can a0_could a0_arcRow a0_order a0_isOut 0 v0_nodes v0_arcs v0_takenMany v0_leftBits v0_hasPolynomial v0_hasLists w0_near w0_tints_18 w0_order_8 w0_isOut_9) := hD.sub [2, 3, 4, 0, 1] (by decide) rfl
              clear hP1 hK1 hD1 hk1 hPc hDc hFc ht hvm hz1
              generalize H1 = H at hP hS ⊢
              refine lv_iload_n hx hb d_Mo_greedy_110 rfl (lv_at hl 3 rfl) ?_
              refine lv_iconst (v := 1) hx hb d_Mo_greedy_111 (by decide) ?_
              refine lv_aload_n hx hb d_Mo_greedy_112 rfl (lv_at hl 1 rfl) ?_
              refine va_get (D := (dC, dI)) (ci := 8) (v := .ref a0_tints) (C := R_Mo) (T := T_Mo) (N := 28) hx hb htt hin_Mo hown hK hP 0 rfl rfl 9 (by decide) (htt _ kt_778) (fun _ h9 => h9) rfl d_Mo_greedy_113 ?_
              refine lv_iload hx hb d_Mo_greedy_116 (lv_at hl 0 rfl) ?_
              obtain ⟨hi_20, hm⟩ := gC_e hm
              refine va_iald hx hb hK hP 2 0 rfl rfl (inb_vp hi_20) d_Mo_greedy_118 ?_
              refine lv_ishl hx hb d_Mo_greedy_119 ?_
              refine lv_ior hx hb d_Mo_greedy_120 ?_
              refine lv_topi (fun x2_21 ex2_21 => ?_)
              have hm := gB_at ex2_21 hm
              refine lv_istore_n (lv' := [(2, .int x2_21), (4, .int s_17), (0, .ref a0), (1, .int p1), (3, .int x3_11)]) hx hb d_Mo_greedy_121 rfl hl (by decide) rfl (fun ls hl => ?_)
              obtain ⟨x3_22, ex3_22⟩ : ∃ y : Int32, y = x3_11 + 1 := ⟨_, rfl⟩
              have hm := gB_at ex3_22 hm
              refine lv_iinc (v := x3_22) (lv' := [(3, .int x3_22), (2, .int x2_21), (4, .int s_17), (0, .ref a0), (1, .int p1)]) hx hb d_Mo_greedy_122 hl (k := 4) rfl (by rw [ex3_22]; rfl) (by decide) rfl (fun ls hl => ?_)
              refine lv_goto (tgt := 76) hx hb d_Mo_greedy_125 (by decide) ?_
              exact ih_76 _ hm _ _ _ rfl ls H locs (lv_sub hl [3, 4, 1, 0] rfl) hP hD hS
            clear hJ_102
            refine lv_icmp_ne (tgt := 96) hx hb d_Mo_greedy_86 (by decide) (fun c_23 => ?_) (fun c_23 => ?_)
            · have hm := ite_f c_23 hm
              refine lv_aload_n hx hb d_Mo_greedy_96 rfl (lv_at hl 0 rfl) ?_
              refine va_get (D := (dC, dI)) (ci := 8) (v := .ref a0_order) (C := R_Mo) (T := T_Mo) (N := 28) hx hb htt hin_Mo hown hK hP 0 rfl rfl 26 (by decide) (htt _ kt_795) (fun _ h9 => h9) rfl d_Mo_greedy_97 ?_
              refine lv_iload_n hx hb d_Mo_greedy_100 rfl (lv_at hl 3 rfl) ?_
              obtain ⟨hi_24, hm⟩ := gC_e hm
              refine va_iald hx hb hK hP 3 0 rfl rfl (inb_vp hi_24) d_Mo_greedy_101 ?_
              exact jp_102 _ ls H locs hm (lv_sub hl [0, 1, 2, 3] rfl) hP hD hS
            · have hm := ite_t c_23 hm
              refine lv_aload_n hx hb d_Mo_greedy_89 rfl (lv_at hl 0 rfl) ?_
              obtain ⟨q_25, hc_26, hm⟩ := gM_e hm
              have hPc : va_P (dC, dI) vwCl (wd_Mo_nextByColours cI cJ cG cZ a0 a0_from a0_to a0_near a0_lists a0_colours a0_shades a0_tints a0_attempt a0_taken a0_isApart a0_ways a0_next a0_splits a0_powers a0_row a0_many a0_can a0_could a0_arcRow a0_order a0_isOut 0 v0_nodes v0_arcs v0_takenMany v0_leftBits v0_hasPolynomial v0_hasLists w0_near w0_tints_12) H := hP.sub [0, 1, 2] rfl
              have hDc : va_D A (wd_Mo_nextByColours cI cJ cG cZ a0 a0_from a0_to a0_near a0_lists a0_colours a0_shades a0_tints a0_attempt a0_taken a0_isApart a0_ways a0_next a0_splits a0_powers a0_row a0_many a0_can a0_could a0_arcRow a0_order a0_isOut 0 v0_nodes v0_arcs v0_takenMany v0_leftBits v0_hasPolynomial v0_hasLists w0_near w0_tints_12) := hD.sub [0, 1, 2] (by decide) rfl
              have hFc : ∀ q, va_A (wd_Mo_nextByColours cI cJ cG cZ a0 a0_from a0_to a0_near a0_lists a0_colours a0_shades a0_tints a0_attempt a0_taken a0_isApart a0_ways a0_next a0_splits a0_powers a0_row a0_many a0_can a0_could a0_arcRow a0_order a0_isOut 0 v0_nodes v0_arcs v0_takenMany v0_leftBits v0_hasPolynomial v0_hasLists w0_near w0_tints_12) H.size q → A q := va_free hD hS hA [0, 1, 2] rfl
              refine va_calli (va_runV (As := []) (rest := []) ⟨hx, hb, hml, hown, htt⟩ (c_Mo_nextByColours l dC dI cI cJ cG cZ a0 a0_from a0_to a0_near a0_lists a0_colours a0_shades a0_tints a0_attempt a0_taken a0_isApart a0_ways a0_next a0_splits a0_powers a0_row a0_many a0_can a0_could a0_arcRow a0_order a0_isOut H.size F 0 v0_nodes v0_arcs v0_takenMany v0_leftBits v0_hasPolynomial v0_hasLists w0_near w0_tints_12 q_25 hc_26) (cwV 0 htt (gdV kt_1003 kt_1005 kp_58 kt_10 kt_1006) rfl rfl rfl (by decide +kernel) ⟨(Nat.le_of_ble_eq_true rfl), (Nat.le_of_ble_eq_true rfl)⟩) ⟨PcS_blind, va_recv hK hPc (ci := 8) (q0 := 0) rfl rfl, PcS_in hPc hK hDc hNw⟩ rfl rfl hl.1 rfl (lv_room (Nat.le_of_ble_eq_true rfl)) d_Mo_greedy_90 ⟨Nat.zero_le _, Nat.zero_le _⟩) hS (fun q _ h => hFc q h) hFc (fun r_27 u t H1 locs ht hvm hw hB hz1 hk1 hS => ?_)
              obtain ⟨hP1, hK1, hD1⟩ := hB
              rw [ht] at hP1
              subst hw
              obtain ⟨hP, hD⟩ := va_join (wr := [(a0_order, .inl (cI, 12, .inl w0_order_8)), (a0_isOut, .inl (cZ, 12, .inl w0_isOut_9))]) (w1 := (wd_Mo_nextByColours cI cJ cG cZ a0 a0_from a0_to a0_near a0_lists a0_colours a0_shades a0_tints a0_attempt a0_taken a0_isApart a0_ways a0_next a0_splits a0_powers a0_row a0_many a0_can a0_could a0_arcRow a0_order a0_isOut 0 v0_nodes v0_arcs v0_takenMany v0_leftBits v0_hasPolynomial v0_hasLists w0_near w0_tints_12)) hP hD [0, 1, 2] [3, 4] rfl rfl (by decide) (by decide) hk1 hFc hP1 hD1
              have hP : va_P (dC, dI) vwCl (wd_Mo_greedy cI cJ cG cZ a0 a0_from a0_to a0_near a0_lists a0_colours a0_shades a0_tints a0_attempt a0_taken a0_isApart a0_ways a0_next a0_splits a0_powers a0_row a0_many a0_can a0_could a0_arcRow a0_order a0_isOut 0 v0_nodes v0_arcs v0_takenMany v0_leftBits v0_hasPolynomial v0_hasLists w0_near w0_tints_12 w0_order_8 w0_isOut_9) H1 := hP.sub [2, 3, 4, 0, 1] rfl
              have hD : va_D A (wd_Mo_greedy cI cJ cG cZ a0 a0_from a0_to a0_near a0_lists a0_colours a0_shades a0_tints a0_attempt a0_taken a0_isApart a0_ways a0_next a0_splits a0_powers a0_row a0_many a0_can a0_could a0_arcRow a0_order a0_isOut 0 v0_nodes v0_arcs v0_takenMany v0_leftBits v0_hasPolynomial v0_hasLists w0_near w0_tints_12 w0_order_8 w0_isOut_9) := hD.sub [2, 3, 4, 0, 1] (by decide) rfl
              clear hP1 hK1 hD1 hk1 hPc hDc hFc ht hvm hz1
              generalize H1 = H at hP hS ⊢
              refine lv_goto (tgt := 102) hx hb d_Mo_greedy_93 (by decide) ?_
              exact jp_102 _ ls H locs hm (lv_sub hl [0, 1, 2, 3] rfl) hP hD hS
        clear hJ_72
        refine lv_icmp_ne (tgt := 63) hx hb d_Mo_greedy_53 (by decide) (fun c_28 => ?_) (fun c_28 => ?_)
        · have hm := ite_f c_28 hm
          refine lv_iload_n hx hb d_Mo_greedy_63 rfl (lv_at hl 1 rfl) ?_
          refine lv_iconst (v := 2) hx hb d_Mo_greedy_64 (by decide) ?_
          refine lv_icmp_ne (tgt := 72) hx hb d_Mo_greedy_65 (by decide) (fun c_29 => ?_) (fun c_29 => ?_)
          · have hm := ite_f c_29 hm
            exact jp_72 _ _ ls H locs hm (lv_sub hl [0, 1] rfl) hP hD hS
          · have hm := ite_t c_29 hm
            refine lv_aload_n hx hb d_Mo_greedy_68 rfl (lv_at hl 0 rfl) ?_
            obtain ⟨w0_order_30, hc_31, hm⟩ := gM_e hm
            have hPc : va_P (dC, dI) vwCl (wd_Mo_orderBackwards cI cJ cG cZ a0 a0_from a0_to a0_near a0_lists a0_colours a0_shades a0_tints a0_attempt a0_taken a0_isApart a0_ways a0_next a0_splits a0_powers a0_row a0_many a0_can a0_could a0_arcRow a0_order a0_isOut 0 v0_nodes v0_arcs v0_takenMany v0_leftBits v0_hasPolynomial v0_hasLists w0_near w0_order_5) H := hP.sub [0, 1, 3] rfl
            have hDc : va_D A (wd_Mo_orderBackwards cI cJ cG cZ a0 a0_from a0_to a0_near a0_lists a0_colours a0_shades a0_tints a0_attempt a0_taken a0_isApart a0_ways a0_next a0_splits a0_powers a0_row a0_many a0_can a0_could a0_arcRow a0_order a0_isOut 0 v0_nodes v0_arcs v0_takenMany v0_leftBits v0_hasPolynomial v0_hasLists w0_near w0_order_5) := hD.sub [0, 1, 3] (by decide) rfl
            have hFc : ∀ q, va_A (wd_Mo_orderBackwards cI cJ cG cZ a0 a0_from a0_to a0_near a0_lists a0_colours a0_shades a0_tints a0_attempt a0_taken a0_isApart a0_ways a0_next a0_splits a0_powers a0_row a0_many a0_can a0_could a0_arcRow a0_order a0_isOut 0 v0_nodes v0_arcs v0_takenMany v0_leftBits v0_hasPolynomial v0_hasLists w0_near w0_order_5) H.size q → A q := va_free hD hS hA [0, 1, 3] rfl
            refine va_callv (va_runV (As := []) (rest := []) ⟨hx, hb, hml, hown, htt⟩ (c_Mo_orderBackwards l dC dI cI cJ cG cZ a0 a0_from a0_to a0_near a0_lists a0_colours a0_shades a0_tints a0_attempt a0_taken a0_isApart a0_ways a0_next a0_splits a0_powers a0_row a0_many a0_can a0_could a0_arcRow a0_order a0_isOut H.size F 0 v0_nodes v0_arcs v0_takenMany v0_leftBits v0_hasPolynomial v0_hasLists w0_near w0_order_5 w0_order_30 hc_31) (cwV 0 htt (gdV kt_999 kt_1001 kp_57 kt_10 kt_1002) rfl rfl rfl (by decide +kernel) ⟨(Nat.le_of_ble_eq_true rfl), (Nat.le_of_ble_eq_true rfl)⟩) ⟨PcS_blind, va_recv hK hPc (ci := 8) (q0 := 0) rfl rfl, PcS_in hPc hK hDc hNw⟩ rfl rfl hl.1 rfl (lv_room (Nat.le_of_ble_eq_true rfl)) d_Mo_greedy_69 ⟨Nat.zero_le _, Nat.zero_le _⟩) hS (fun q _ h => hFc q h) hFc (fun u t H1 locs ht hvm hw hB hz1 hk1 hS => ?_)
            obtain ⟨hP1, hK1, hD1⟩ := hB
            rw [ht] at hP1
            obtain ⟨hP, hD⟩ := va_join (wr := [(a0_tints, .inl (cI, 12, .inl w0_tints_4)), (a0_isOut, .inl (cZ, 12, .inl w0_isOut_6))]) (w1 := (wd_Mo_orderBackwards cI cJ cG cZ a0 a0_from a0_to a0_near a0_lists a0_colours a0_shades a0_tints a0_attempt a0_taken a0_isApart a0_ways a0_next a0_splits a0_powers a0_row a0_many a0_can a0_could a0_arcRow a0_order a0_isOut 0 v0_nodes v0_arcs v0_takenMany v0_leftBits v0_hasPolynomial v0_hasLists w0_near w0_order_30)) hP hD [0, 1, 3] [2, 4] rfl rfl (by decide) (by decide) hk1 hFc hP1 hD1
            have hP : va_P (dC, dI) vwCl (wd_Mo_greedy cI cJ cG cZ a0 a0_from a0_to a0_near a0_lists a0_colours a0_shades a0_tints a0_attempt a0_taken a0_isApart a0_ways a0_next a0_splits a0_powers a0_row a0_many a0_can a0_could a0_arcRow a0_order a0_isOut 0 v0_nodes v0_arcs v0_takenMany v0_leftBits v0_hasPolynomial v0_hasLists w0_near w0_tints_4 w0_order_30 w0_isOut_6) H1 := hP.sub [2, 3, 0, 4, 1] rfl
            have hD : va_D A (wd_Mo_greedy cI cJ cG cZ a0 a0_from a0_to a0_near a0_lists a0_colours a0_shades a0_tints a0_attempt a0_taken a0_isApart a0_ways a0_next a0_splits a0_powers a0_row a0_many a0_can a0_could a0_arcRow a0_order a0_isOut 0 v0_nodes v0_arcs v0_takenMany v0_leftBits v0_hasPolynomial v0_hasLists w0_near w0_tints_4 w0_order_30 w0_isOut_6) := hD.sub [2, 3, 0, 4, 1] (by decide) rfl
            clear hP1 hK1 hD1 hk1 hPc hDc hFc ht hvm hz1
            generalize H1 = H at hP hS ⊢
            exact jp_72 _ _ ls H locs hm (lv_sub hl [0, 1] rfl) hP hD hS
        · have hm := ite_t c_28 hm
          refine lv_aload_n hx hb d_Mo_greedy_56 rfl (lv_at hl 0 rfl) ?_
          obtain ⟨⟨w0_order_32, w0_isOut_33⟩, hc_34, hm⟩ := gM_e hm
          dsimp only at hm
          have hPc : va_P (dC, dI) vwCl (wd_Mo_orderByNear cI cJ cG cZ a0 a0_from a0_to a0_near a0_lists a0_colours a0_shades a0_tints a0_attempt a0_taken a0_isApart a0_ways a0_next a0_splits a0_powers a0_row a0_many a0_can a0_could a0_arcRow a0_order a0_isOut 0 v0_nodes v0_arcs v0_takenMany v0_leftBits v0_hasPolynomial v0_hasLists w0_near w0_order_5 w0_isOut_6) H := hP.sub [0, 1, 3, 4] rfl
          have hDc : va_D A (wd_Mo_orderByNear cI cJ cG cZ a0 a0_from a0_to a0_near a0_lists a0_colours a0_shades a0_tints a0_attempt a0_taken a0_isApart a0_ways a0_next a0_splits a0_powers a0_row a0_many a0_can a0_could a0_arcRow a0_order a0_isOut 0 v0_nodes v0_arcs v0_takenMany v0_leftBits v0_hasPolynomial v0_hasLists w0_near w0_order_5 w0_isOut_6) := hD.sub [0, 1, 3, 4] (by decide) rfl
          have hFc : ∀ q, va_A (wd_Mo_orderByNear cI cJ cG cZ a0 a0_from a0_to a0_near a0_lists a0_colours a0_shades a0_tints a0_attempt a0_taken a0_isApart a0_ways a0_next a0_splits a0_powers a0_row a0_many a0_can a0_could a0_arcRow a0_order a0_isOut 0 v0_nodes v0_arcs v0_takenMany v0_leftBits v0_hasPolynomial v0_hasLists w0_near w0_order_5 w0_isOut_6) H.size q → A q := va_free hD hS hA [0, 1, 3, 4] rfl
          refine va_callv (va_runV (As := []) (rest := []) ⟨hx, hb, hml, hown, htt⟩ (c_Mo_orderByNear l dC dI cI cJ cG cZ a0 a0_from a0_to a0_near a0_lists a0_colours a0_shades a0_tints a0_attempt a0_taken a0_isApart a0_ways a0_next a0_splits a0_powers a0_row a0_many a0_can a0_could a0_arcRow a0_order a0_isOut H.size F 0 v0_nodes v0_arcs v0_takenMany v0_leftBits v0_hasPolynomial v0_hasLists w0_near w0_order_5 w0_isOut_6 w0_order_32 w0_isOut_33 hc_34) (cwV 0 htt (gdV kt_995 kt_997 kp_56 kt_10 kt_998) rfl rfl rfl (by decide +kernel) ⟨(Nat.le_of_ble_eq_true rfl), (Nat.le_of_ble_eq_true rfl)⟩) ⟨PcS_blind, va_recv hK hPc (ci := 8) (q0 := 0) rfl rfl, PcS_in hPc hK hDc hNw⟩ rfl rfl hl.1 rfl (lv_room (Nat.le_of_ble_eq_true rfl)) d_Mo_greedy_57 ⟨Nat.zero_le _, Nat.zero_le _⟩) hS (fun q _ h => hFc q h) hFc (fun u t H1 locs ht hvm hw hB hz1 hk1 hS => ?_)
          obtain ⟨hP1, hK1, hD1⟩ := hB
          rw [ht] at hP1
          obtain ⟨hP, hD⟩ := va_join (wr := [(a0_tints, .inl (cI, 12, .inl w0_tints_4))]) (w1 := (wd_Mo_orderByNear cI cJ cG cZ a0 a0_from a0_to a0_near a0_lists a0_colours a0_shades a0_tints a0_attempt a0_taken a0_isApart a0_ways a0_next a0_splits a0_powers a0_row a0_many a0_can a0_could a0_arcRow a0_order a0_isOut 0 v0_nodes v0_arcs v0_takenMany v0_leftBits v0_hasPolynomial v0_hasLists w0_near w0_order_32 w0_isOut_33)) hP hD [0, 1, 3, 4] [2] rfl rfl (by decide) (by decide) hk1 hFc hP1 hD1
          have hP : va_P (dC, dI) vwCl (wd_Mo_greedy cI cJ cG cZ a0 a0_from a0_to a0_near a0_lists a0_colours a0_shades a0_tints a0_attempt a0_taken a0_isApart a0_ways a0_next a0_splits a0_powers a0_row a0_many a0_can a0_could a0_arcRow a0_order a0_isOut 0 v0_nodes v0_arcs v0_takenMany v0_leftBits v0_hasPolynomial v0_hasLists w0_near w0_tints_4 w0_order_32 w0_isOut_33) H1 := hP.sub [1, 2, 0, 3, 4] rfl
          have hD : va_D A (wd_Mo_greedy cI cJ cG cZ a0 a0_from a0_to a0_near a0_lists a0_colours a0_shades a0_tints a0_attempt a0_taken a0_isApart a0_ways a0_next a0_splits a0_powers a0_row a0_many a0_can a0_could a0_arcRow a0_order a0_isOut 0 v0_nodes v0_arcs v0_takenMany v0_leftBits v0_hasPolynomial v0_hasLists w0_near w0_tints_4 w0_order_32 w0_isOut_33) := hD.sub [1, 2, 0, 3, 4] (by decide) rfl
          clear hP1 hK1 hD1 hk1 hPc hDc hFc ht hvm hz1
          generalize H1 = H at hP hS ⊢
          refine lv_goto (tgt := 72) hx hb d_Mo_greedy_60 (by decide) ?_
          exact jp_72 _ _ ls H locs hm (lv_sub hl [0, 1] rfl) hP hD hS
      · have hm := ite_f c_7 hm
        refine lv_aload_n hx hb d_Mo_greedy_24 rfl (lv_at hl 0 rfl) ?_
        refine va_get (D := (dC, dI)) (ci := 8) (v := .ref a0_tints) (C := R_Mo) (T := T_Mo) (N := 28) hx hb htt hin_Mo hown hK hP 0 rfl rfl 9 (by decide) (htt _ kt_778) (fun _ h9 => h9) rfl d_Mo_greedy_25 ?_
        refine lv_iload_n hx hb d_Mo_greedy_28 rfl (lv_at hl 2 rfl) ?_
        refine lv_iconst (v := (-1)) hx hb d_Mo_greedy_29 (by decide) ?_
        obtain ⟨hi_36, hm⟩ := gC_e hm
        refine va_iast hx hb hK hP hD hS 2 0 rfl rfl (inb_vp hi_36) d_Mo_greedy_30 (fun H locs hP hD hS => ?_)
        have hP : va_P (dC, dI) vwCl (wd_Mo_greedy cI cJ cG cZ a0 a0_from a0_to a0_near a0_lists a0_colours a0_shades a0_tints a0_attempt a0_taken a0_isApart a0_ways a0_next a0_splits a0_powers a0_row a0_many a0_can a0_could a0_arcRow a0_order a0_isOut 0 v0_nodes v0_arcs v0_takenMany v0_leftBits v0_hasPolynomial v0_hasLists w0_near (upd w0_tints_4 x2_3.toNatClampNeg (-1)) w0_order_5 w0_isOut_6) H := hP
        have hD : va_D A (wd_Mo_greedy cI cJ cG cZ a0 a0_from a0_to a0_near a0_lists a0_colours a0_shades a0_tints a0_attempt a0_taken a0_isApart a0_ways a0_next a0_splits a0_powers a0_row a0_many a0_can a0_could a0_arcRow a0_order a0_isOut 0 v0_nodes v0_arcs v0_takenMany v0_leftBits v0_hasPolynomial v0_hasLists w0_near (upd w0_tints_4 x2_3.toNatClampNeg (-1)) w0_order_5 w0_isOut_6) := hD
        refine lv_aload_n hx hb d_Mo_greedy_31 rfl (lv_at hl 0 rfl) ?_
        refine va_get (D := (dC, dI)) (ci := 8) (v := .ref a0_isOut) (C := R_Mo) (T := T_Mo) (N := 28) hx hb htt hin_Mo hown hK hP 0 rfl rfl 27 (by decide) (htt _ kt_796) (fun _ h9 => h9) rfl d_Mo_greedy_32 ?_
        refine lv_iload_n hx hb d_Mo_greedy_35 rfl (lv_at hl 2 rfl) ?_
        refine lv_iconst (v := 0) hx hb d_Mo_greedy_36 (by decide) ?_
        obtain ⟨hi_37, hm⟩ := gC_e hm
        refine va_zast hx hb hK hP hD hS 4 3 rfl rfl (inb_vp hi_37) d_Mo_greedy_37 (fun H locs hP hD hS => ?_)
        have hP : va_P (dC, dI) vwCl (wd_Mo_greedy cI cJ cG cZ a0 a0_from a0_to a0_near a0_lists a0_colours a0_shades a0_tints a0_attempt a0_taken a0_isApart a0_ways a0_next a0_splits a0_powers a0_row a0_many a0_can a0_could a0_arcRow a0_order a0_isOut 0 v0_nodes v0_arcs v0_takenMany v0_leftBits v0_hasPolynomial v0_hasLists w0_near (upd w0_tints_4 x2_3.toNatClampNeg (-1)) w0_order_5 (upd w0_isOut_6 x2_3.toNatClampNeg (vp_nar .boolean 0))) H := hP
        have hD : va_D A (wd_Mo_greedy cI cJ cG cZ a0 a0_from a0_to a0_near a0_lists a0_colours a0_shades a0_tints a0_attempt a0_taken a0_isApart a0_ways a0_next a0_splits a0_powers a0_row a0_many a0_can a0_could a0_arcRow a0_order a0_isOut 0 v0_nodes v0_arcs v0_takenMany v0_leftBits v0_hasPolynomial v0_hasLists w0_near (upd w0_tints_4 x2_3.toNatClampNeg (-1)) w0_order_5 (upd w0_isOut_6 x2_3.toNatClampNeg (vp_nar .boolean 0))) := hD
        refine lv_aload_n hx hb d_Mo_greedy_38 rfl (lv_at hl 0 rfl) ?_
        refine va_get (D := (dC, dI)) (ci := 8) (v := .ref a0_order) (C := R_Mo) (T := T_Mo) (N := 28) hx hb htt hin_Mo hown hK hP 0 rfl rfl 26 (by decide) (htt _ kt_795) (fun _ h9 => h9) rfl d_Mo_greedy_39 ?_
        refine lv_iload_n hx hb d_Mo_greedy_42 rfl (lv_at hl 2 rfl) ?_
        refine lv_iload_n hx hb d_Mo_greedy_43 rfl (lv_at hl 2 rfl) ?_
        obtain ⟨hi_38, hm⟩ := gC_e hm
        refine va_iast hx hb hK hP hD hS 3 0 rfl rfl (inb_vp hi_38) d_Mo_greedy_44 (fun H locs hP hD hS => ?_)
        have hP : va_P (dC, dI) vwCl (wd_Mo_greedy cI cJ cG cZ a0 a0_from a0_to a0_near a0_lists a0_colours a0_shades a0_tints a0_attempt a0_taken a0_isApart a0_ways a0_next a0_splits a0_powers a0_row a0_many a0_can a0_could a0_arcRow a0_order a0_isOut 0 v0_nodes v0_arcs v0_takenMany v0_leftBits v0_hasPolynomial v0_hasLists w0_near (upd w0_tints_4 x2_3.toNatClampNeg (-1)) (upd w0_order_5 x2_3.toNatClampNeg x2_3) (upd w0_isOut_6 x2_3.toNatClampNeg (vp_nar .boolean 0))) H := hP
        have hD : va_D A (wd_Mo_greedy cI cJ cG cZ a0 a0_from a0_to a0_near a0_lists a0_colours a0_shades a0_tints a0_attempt a0_taken a0_isApart a0_ways a0_next a0_splits a0_powers a0_row a0_many a0_can a0_could a0_arcRow a0_order a0_isOut 0 v0_nodes v0_arcs v0_takenMany v0_leftBits v0_hasPolynomial v0_hasLists w0_near (upd w0_tints_4 x2_3.toNatClampNeg (-1)) (upd w0_order_5 x2_3.toNatClampNeg x2_3) (upd w0_isOut_6 x2_3.toNatClampNeg (vp_nar .boolean 0))) := hD
        obtain ⟨x2_39, ex2_39⟩ : ∃ y : Int32, y = x2_3 + 1 := ⟨_, rfl⟩
        have hm := gB_at ex2_39 hm
        refine lv_iinc (v := x2_39) (lv' := [(2, .int x2_39), (0, .ref a0), (1, .int p1)]) hx hb d_Mo_greedy_45 hl (k := 2) rfl (by rw [ex2_39]; rfl) (by decide) rfl (fun ls hl => ?_)
        refine lv_goto (tgt := 18) hx hb d_Mo_greedy_48 (by decide) ?_
        exact ih_18 _ hm _ _ _ _ rfl ls H locs (lv_sub hl [1, 2, 0] rfl) hP hD hS
    · have hm := ite_f c_2 hm
      refine lv_iconst (v := (-1)) hx hb d_Mo_greedy_14 (by decide) ?_
      cases hm
      exact W.iret hx hb hr (fun t ht hW => ⟨⟨_, (), rfl, rfl, by rw [ht]; exact hP, va_K.moved hW.alike hK, hD⟩, hS.F ht⟩) hS.2.2 d_Mo_greedy_15
theorem d_Mo_tint_0 : decode prog_10_method_44_code 0 = .ok (.aload_n 0, 1) := by decide +kernel
theorem d_Mo_tint_1 : decode prog_10_method_44_code 1 = .ok (.iconst 0, 1) := by decide +kernel
theorem d_Mo_tint_2 : decode prog_10_method_44_code 2 = .ok (.putfield 79, 3) := by decide +kernel
theorem d_Mo_tint_5 : decode prog_10_method_44_code 5 = .ok (.aload_n 0, 1) := by decide +kernel
theorem d_Mo_tint_6 : decode prog_10_method_44_code 6 = .ok (.iload_n 1, 1) := by decide +kernel
theorem d_Mo_tint_7 : decode prog_10_method_44_code 7 = .ok (.invokevirtual 98, 3) := by decide +kernel
theorem d_Mo_tint_10 : decode prog_10_method_44_code 10 = .ok (.ifCond .eq 12, 3) := by decide +kernel
theorem d_Mo_tint_13 : decode prog_10_method_44_code 13 = .ok (.aload_n 0, 1) := by decide +kernel
theorem d_Mo_tint_14 : decode prog_10_method_44_code 14 = .ok (.getfield 28, 3) := by decide +kernel
theorem d_Mo_tint_17 : decode prog_10_method_44_code 17 = .ok (.iload_n 1, 1) := by decide +kernel
theorem d_Mo_tint_18 : decode prog_10_method_44_code 18 = .ok (.iaload, 1) := by decide +kernel
theorem d_Mo_tint_19 : decode prog_10_method_44_code 19 = .ok (.goto 4, 3) := by decide +kernel
theorem d_Mo_tint_22 : decode prog_10_method_44_code 22 = .ok (.iconst (-1), 1) := by decide +kernel
theorem d_Mo_tint_23 : decode prog_10_method_44_code 23 = .ok (.ireturn, 1) := by decide +kernel
abbrev wd_Mo_tint (cI cJ cG cZ : ClassId) (a0 a0_from a0_to a0_near a0_lists a0_colours a0_shades a0_tints a0_attempt a0_taken a0_isApart a0_ways a0_next a0_splits a0_powers a0_row a0_many a0_can a0_could a0_arcRow a0_order a0_isOut : Nat) (v0_thrown : Int32) (v0_nodes : Int32) (v0_arcs : Int32) (v0_takenMany : Int32) (v0_leftBits : Int32) (v0_hasPolynomial : Int32) (v0_hasLists : Int32) (w0_tints : Nat → Int32) : va_W := [(a0, .inr (8, [.int v0_thrown, .int v0_nodes, .int v0_arcs, .ref a0_from, .ref a0_to, .ref a0_near, .ref a0_lists, .ref a0_colours, .ref a0_shades, .ref a0_tints, .ref a0_attempt, .int v0_takenMany, .ref a0_taken, .int v0_leftBits, .ref a0_isApart, .ref a0_ways, .ref a0_next, .ref a0_splits, .ref a0_powers, .ref a0_row, .ref a0_many, .int v0_hasPolynomial, .int v0_hasLists, .ref a0_can, .ref a0_could, .ref a0_arcRow, .ref a0_order, .ref a0_isOut])), (a0_tints, .inl (cI, 12, .inl w0_tints))]
abbrev us_Mo_tint : List Cond := .code y_Mo_tint prog_10_method_44_code 2 (some .int) :: gtbl
abbrev rm_Mo_tint : Room := { frames := 1, cells := 0, slots := 0, locals := 21 }
def m_Mo_tint (F : Nat) (v0_thrown : Int32) (v0_nodes : Int32) (v0_arcs : Int32) (v0_takenMany : Int32) (v0_leftBits : Int32) (v0_hasPolynomial : Int32) (v0_hasLists : Int32) (w0_tints : Nat → Int32) (p1 : Int32) : Option (Int32 × Int32) :=
  gM (m_Mo_isNode F 0 v0_nodes v0_arcs v0_takenMany v0_leftBits v0_hasPolynomial v0_hasLists p1) (fun q_1 =>
  if q_1 = 0 then (
    some ((-1), 0)
  ) else (
    gC (inb p1 12) (
    some (w0_tints p1.toNatClampNeg, 0))
  ))
set_option maxHeartbeats 4000000 in
set_option maxRecDepth 100000 in
theorem c_Mo_tint (l : Launch) (dC : Nat → ClassId) (dI : Nat → Nat → Nat) (cI cJ cG cZ : ClassId) (a0 a0_from a0_to a0_near a0_lists a0_colours a0_shades a0_tints a0_attempt a0_taken a0_isApart a0_ways a0_next a0_splits a0_powers a0_row a0_many a0_can a0_could a0_arcRow a0_order a0_isOut : Nat) (sz : Nat) (F : Nat) (v0_thrown : Int32) (v0_nodes : Int32) (v0_arcs : Int32) (v0_takenMany : Int32) (v0_leftBits : Int32) (v0_hasPolynomial : Int32) (v0_hasLists : Int32) (w0_tints : Nat → Int32) (p1 : Int32) (ret : Int32) (o_v0_thrown : Int32) (hm : m_Mo_tint F v0_thrown v0_nodes v0_arcs v0_takenMany v0_leftBits v0_hasPolynomial v0_hasLists w0_tints p1 = some (ret, o_v0_thrown)) : Met l y_Mo_tint us_Mo_tint rm_Mo_tint (PcS (dC, dI) (tyL cI cJ cG cZ) [.ref a0, .int p1] sz (wd_Mo_tint cI cJ cG cZ a0 a0_from a0_to a0_near a0_lists a0_colours a0_shades a0_tints a0_attempt a0_taken a0_isApart a0_ways a0_next a0_splits a0_powers a0_row a0_many a0_can a0_could a0_arcRow a0_order a0_isOut v0_thrown v0_nodes v0_arcs v0_takenMany v0_leftBits v0_hasPolynomial v0_hasLists w0_tints)) (va_Qi (fun (r : Int32) (_ : Unit) => ret = r) (fun _ t => PoS (dC, dI) (tyL cI cJ cG cZ) (wd_Mo_tint cI cJ cG cZ a0 a0_from a0_to a0_near a0_lists a0_colours a0_shades a0_tints a0_attempt a0_taken a0_isApart a0_ways a0_next a0_splits a0_powers a0_row a0_many a0_can a0_could a0_arcRow a0_order a0_isOut o_v0_thrown v0_nodes v0_arcs v0_takenMany v0_leftBits v0_hasPolynomial v0_hasLists w0_tints) (va_A (wd_Mo_tint cI cJ cG cZ a0 a0_from a0_to a0_near a0_lists a0_colours a0_shades a0_tints a0_attempt a0_taken a0_isApart a0_ways a0_next a0_splits a0_powers a0_row a0_many a0_can a0_could a0_arcRow a0_order a0_isOut v0_thrown v0_nodes v0_arcs v0_takenMany v0_leftBits v0_hasPolynomial v0_hasLists w0_tints) sz) t) (va_A (wd_Mo_tint cI cJ cG cZ a0 a0_from a0_to a0_near a0_lists a0_colours a0_shades a0_tints a0_attempt a0_taken a0_isApart a0_ways a0_next a0_splits a0_powers a0_row a0_many a0_can a0_could a0_arcRow a0_order a0_isOut v0_thrown v0_nodes v0_arcs v0_takenMany v0_leftBits v0_hasPolynomial v0_hasLists w0_tints) sz)) 0 0 (va_A (wd_Mo_tint cI cJ cG cZ a0 a0_from a0_to a0_near a0_lists a0_colours a0_shades a0_tints a0_attempt a0_taken a0_isApart a0_ways a0_next a0_splits a0_powers a0_row a0_many a0_can a0_could a0_arcRow a0_order a0_isOut v0_thrown v0_nodes v0_arcs v0_takenMany v0_leftBits v0_hasPolynomial v0_hasLists w0_tints) sz) := by
  refine Met.ofW (cc := prog_10_method_44_code) (maxL := 2) (ret := (some .int)) (by decide) rfl ?_
  intro p e s m args below meth c s₁ B hml hv
  obtain ⟨rfl, hsz, hP, hK, hD0, hNw⟩ := hv
  have hx := B.exec
  have hb := B.bytes
  have hr := B.returns
  have htt : ∀ w ∈ gtbl, w.before _ s = true := fun w h => atoms_spec (ws := us_Mo_tint) B.pre w (List.mem_cons_of_mem _ h)
  have hown : s.vm.findClass R_Mo = some m.cls := findClass_of_methodNamed B.named
  have hlocks := B.notSynchronized
  subst hsz
  have hD := hD0.self (sz := s.heap.size)
  generalize hAe : va_A (wd_Mo_tint cI cJ cG cZ a0 a0_from a0_to a0_near a0_lists a0_colours a0_shades a0_tints a0_attempt a0_taken a0_isApart a0_ways a0_next a0_splits a0_powers a0_row a0_many a0_can a0_could a0_arcRow a0_order a0_isOut v0_thrown v0_nodes v0_arcs v0_takenMany v0_leftBits v0_hasPolynomial v0_hasLists w0_tints) s.heap.size = A at hD ⊢
  have hA : ∀ q : Nat, s.heap.size ≤ q → A q := fun q h => by rw [← hAe]; exact Or.inr h
  clear hAe hD0
  have hS : va_S A s.heap s.heap [] := va_S.rf
  have hl := lv_entry ([.ref a0, .int p1]) (n := 2) (Nat.le_of_ble_eq_true rfl)
  rw [lg_entry_eq]
  generalize (lg_sl ([.ref a0, .int p1]) ++ List.replicate (2 - (lg_sl ([.ref a0, .int p1])).length) Slot.unset).toArray = ls at hl ⊢
  have hl : lv_has ls 2 [(0, .ref a0), (1, .int p1)] := hl
  generalize hH : s.heap = H at hP ⊢
  have hS : va_S A s.heap H [] := hH ▸ hS
  generalize hLo : ([] : List Loc) = locs at hS ⊢
  clear hH hLo
  unfold m_Mo_tint at hm
  refine lv_aload_n hx hb d_Mo_tint_0 rfl (lv_at hl 0 rfl) ?_
  refine lv_iconst (v := 0) hx hb d_Mo_tint_1 (by decide) ?_
  refine va_put (D := (dC, dI)) (ci := 8) (v := .int 0) (ty := .int) (C := R_Mo) (T := T_Mo) (N := 28) hx hb htt hin_Mo ty_Mo tyok_Mo nm_Mo hown hK hP hD hS 0 rfl rfl 0 (by decide) (htt _ kt_769) (fun _ h9 => h9) rfl (by decide +kernel) rfl rfl (Nat.le_of_ble_eq_true rfl) d_Mo_tint_2 (fun H locs hP hD hS => ?_)
  have hP : va_P (dC, dI) vwCl (wd_Mo_tint cI cJ cG cZ a0 a0_from a0_to a0_near a0_lists a0_colours a0_shades a0_tints a0_attempt a0_taken a0_isApart a0_ways a0_next a0_splits a0_powers a0_row a0_many a0_can a0_could a0_arcRow a0_order a0_isOut 0 v0_nodes v0_arcs v0_takenMany v0_leftBits v0_hasPolynomial v0_hasLists w0_tints) H := hP
  have hD : va_D A (wd_Mo_tint cI cJ cG cZ a0 a0_from a0_to a0_near a0_lists a0_colours a0_shades a0_tints a0_attempt a0_taken a0_isApart a0_ways a0_next a0_splits a0_powers a0_row a0_many a0_can a0_could a0_arcRow a0_order a0_isOut 0 v0_nodes v0_arcs v0_takenMany v0_leftBits v0_hasPolynomial v0_hasLists w0_tints) := hD
  refine lv_aload_n hx hb d_Mo_tint_5 rfl (lv_at hl 0 rfl) ?_
  refine lv_iload_n hx hb d_Mo_tint_6 rfl (lv_at hl 1 rfl) ?_
  obtain ⟨q_1, hc_2, hm⟩ := gM_e hm
  have hPc : va_P (dC, dI) vwCl (wd_Mo_isNode cI cJ cG cZ a0 a0_from a0_to a0_near a0_lists a0_colours a0_shades a0_tints a0_attempt a0_taken a0_isApart a0_ways a0_next a0_splits a0_powers a0_row a0_many a0_can a0_could a0_arcRow a0_order a0_isOut 0 v0_nodes v0_arcs v0_takenMany v0_leftBits v0_hasPolynomial v0_hasLists) H := hP.sub [0] rfl
  have hDc : va_D A (wd_Mo_isNode cI cJ cG cZ a0 a0_from a0_to a0_near a0_lists a0_colours a0_shades a0_tints a0_attempt a0_taken a0_isApart a0_ways a0_next a0_splits a0_powers a0_row a0_many a0_can a0_could a0_arcRow a0_order a0_isOut 0 v0_nodes v0_arcs v0_takenMany v0_leftBits v0_hasPolynomial v0_hasLists) := hD.sub [0] (by decide) rfl
  have hFc : ∀ q, va_A (wd_Mo_isNode cI cJ cG cZ a0 a0_from a0_to a0_near a0_lists a0_colours a0_shades a0_tints a0_attempt a0_taken a0_isApart a0_ways a0_next a0_splits a0_powers a0_row a0_many a0_can a0_could a0_arcRow a0_order a0_isOut 0 v0_nodes v0_arcs v0_takenMany v0_leftBits v0_hasPolynomial v0_hasLists) H.size q → A q := va_free hD hS hA [0] rfl
  refine va_calli (va_runV (As := [.int p1]) (rest := []) ⟨hx, hb, hml, hown, htt⟩ (c_Mo_isNode l dC dI cI cJ cG cZ a0 a0_from a0_to a0_near a0_lists a0_colours a0_shades a0_tints a0_attempt a0_taken a0_isApart a0_ways a0_next a0_splits a0_powers a0_row a0_many a0_can a0_could a0_arcRow a0_order a0_isOut H.size F 0 v0_nodes v0_arcs v0_takenMany v0_leftBits v0_hasPolynomial v0_hasLists p1 q_1 hc_2) (cwV 1 htt (gdV kt_868 kt_870 kp_43 kt_10 kt_871) rfl rfl rfl (by decide +kernel) ⟨(Nat.le_of_ble_eq_true rfl), (Nat.le_of_ble_eq_true rfl)⟩) ⟨PcS_blind, va_recv hK hPc (ci := 8) (q0 := 0) rfl rfl, PcS_in hPc hK hDc hNw⟩ rfl rfl hl.1 rfl (lv_room (Nat.le_of_ble_eq_true rfl)) d_Mo_tint_7 ⟨Nat.zero_le _, Nat.zero_le _⟩) hS (fun q _ h => hFc q h) hFc (fun r_3 u t H1 locs ht hvm hw hB hz1 hk1 hS => ?_)
  obtain ⟨hP1, hK1, hD1⟩ := hB
  rw [ht] at hP1
  obtain ⟨hw, hz_4⟩ := hw
  subst hw
  obtain ⟨hP, hD⟩ := va_join (wr := [(a0_tints, .inl (cI, 12, .inl w0_tints))]) (w1 := (wd_Mo_isNode cI cJ cG cZ a0 a0_from a0_to a0_near a0_lists a0_colours a0_shades a0_tints a0_attempt a0_taken a0_isApart a0_ways a0_next a0_splits a0_powers a0_row a0_many a0_can a0_could a0_arcRow a0_order a0_isOut 0 v0_nodes v0_arcs v0_takenMany v0_leftBits v0_hasPolynomial v0_hasLists)) hP hD [0] [1] rfl rfl (by decide) (by decide) hk1 hFc hP1 hD1
  have hP : va_P (dC, dI) vwCl (wd_Mo_tint cI cJ cG cZ a0 a0_from a0_to a0_near a0_lists a0_colours a0_shades a0_tints a0_attempt a0_taken a0_isApart a0_ways a0_next a0_splits a0_powers a0_row a0_many a0_can a0_could a0_arcRow a0_order a0_isOut 0 v0_nodes v0_arcs v0_takenMany v0_leftBits v0_hasPolynomial v0_hasLists w0_tints) H1 := hP.sub [1, 0] rfl
  have hD : va_D A (wd_Mo_tint cI cJ cG cZ a0 a0_from a0_to a0_near a0_lists a0_colours a0_shades a0_tints a0_attempt a0_taken a0_isApart a0_ways a0_next a0_splits a0_powers a0_row a0_many a0_can a0_could a0_arcRow a0_order a0_isOut 0 v0_nodes v0_arcs v0_takenMany v0_leftBits v0_hasPolynomial v0_hasLists w0_tints) := hD.sub [1, 0] (by decide) rfl
  clear hP1 hK1 hD1 hk1 hPc hDc hFc ht hvm hz1
  generalize H1 = H at hP hS ⊢
  refine lv_if_eq (tgt := 22) hx hb d_Mo_tint_10 (by decide) (fun c_5 => ?_) (fun c_5 => ?_)
  · have hm := ite_t c_5 hm
    refine lv_iconst (v := (-1)) hx hb d_Mo_tint_22 (by decide) ?_
    cases hm
    exact W.iret hx hb hr (fun t ht hW => ⟨⟨_, (), rfl, rfl, by rw [ht]; exact hP, va_K.moved hW.alike hK, hD⟩, hS.F ht⟩) hS.2.2 d_Mo_tint_23
  · have hm := ite_f c_5 hm
    refine lv_aload_n hx hb d_Mo_tint_13 rfl (lv_at hl 0 rfl) ?_
    refine va_get (D := (dC, dI)) (ci := 8) (v := .ref a0_tints) (C := R_Mo) (T := T_Mo) (N := 28) hx hb htt hin_Mo hown hK hP 0 rfl rfl 9 (by decide) (htt _ kt_778) (fun _ h9 => h9) rfl d_Mo_tint_14 ?_
    refine lv_iload_n hx hb d_Mo_tint_17 rfl (lv_at hl 1 rfl) ?_
    obtain ⟨hi_6, hm⟩ := gC_e hm
    refine va_iald hx hb hK hP 1 0 rfl rfl (inb_vp hi_6) d_Mo_tint_18 ?_
    refine lv_goto (tgt := 23) hx hb d_Mo_tint_19 (by decide) ?_
    cases hm
    exact W.iret hx hb hr (fun t ht hW => ⟨⟨_, (), rfl, rfl, by rw [ht]; exact hP, va_K.moved hW.alike hK, hD⟩, hS.F ht⟩) hS.2.2 d_Mo_tint_23
theorem d_Mo_put_0 : decode prog_10_method_45_code 0 = .ok (.aload_n 0, 1) := by decide +kernel
theorem d_Mo_put_1 : decode prog_10_method_45_code 1 = .ok (.iconst 0, 1) := by decide +kernel
theorem d_Mo_put_2 : decode prog_10_method_45_code 2 = .ok (.putfield 79, 3) := by decide +kernel
theorem d_Mo_put_5 : decode prog_10_method_45_code 5 = .ok (.aload_n 0, 1) := by decide +kernel
theorem d_Mo_put_6 : decode prog_10_method_45_code 6 = .ok (.iload_n 1, 1) := by decide +kernel
theorem d_Mo_put_7 : decode prog_10_method_45_code 7 = .ok (.invokevirtual 98, 3) := by decide +kernel
theorem d_Mo_put_10 : decode prog_10_method_45_code 10 = .ok (.ifCond .eq 14, 3) := by decide +kernel
theorem d_Mo_put_13 : decode prog_10_method_45_code 13 = .ok (.iload_n 2, 1) := by decide +kernel
theorem d_Mo_put_14 : decode prog_10_method_45_code 14 = .ok (.iconst (-1), 1) := by decide +kernel
theorem d_Mo_put_15 : decode prog_10_method_45_code 15 = .ok (.if_icmp .lt 9, 3) := by decide +kernel
theorem d_Mo_put_18 : decode prog_10_method_45_code 18 = .ok (.iload_n 2, 1) := by decide +kernel
theorem d_Mo_put_19 : decode prog_10_method_45_code 19 = .ok (.bipush 11, 2) := by decide +kernel
theorem d_Mo_put_21 : decode prog_10_method_45_code 21 = .ok (.if_icmp .le 5, 3) := by decide +kernel
theorem d_Mo_put_24 : decode prog_10_method_45_code 24 = .ok (.iconst 0, 1) := by decide +kernel
theorem d_Mo_put_25 : decode prog_10_method_45_code 25 = .ok (.ireturn, 1) := by decide +kernel
theorem d_Mo_put_26 : decode prog_10_method_45_code 26 = .ok (.aload_n 0, 1) := by decide +kernel
theorem d_Mo_put_27 : decode prog_10_method_45_code 27 = .ok (.getfield 31, 3) := by decide +kernel
theorem d_Mo_put_30 : decode prog_10_method_45_code 30 = .ok (.iload_n 1, 1) := by decide +kernel
theorem d_Mo_put_31 : decode prog_10_method_45_code 31 = .ok (.iload_n 2, 1) := by decide +kernel
theorem d_Mo_put_32 : decode prog_10_method_45_code 32 = .ok (.iastore, 1) := by decide +kernel
theorem d_Mo_put_33 : decode prog_10_method_45_code 33 = .ok (.iconst 1, 1) := by decide +kernel
theorem d_Mo_put_34 : decode prog_10_method_45_code 34 = .ok (.ireturn, 1) := by decide +kernel
abbrev wd_Mo_put (cI cJ cG cZ : ClassId) (a0 a0_from a0_to a0_near a0_lists a0_colours a0_shades a0_tints a0_attempt a0_taken a0_isApart a0_ways a0_next a0_splits a0_powers a0_row a0_many a0_can a0_could a0_arcRow a0_order a0_isOut : Nat) (v0_thrown : Int32) (v0_nodes : Int32) (v0_arcs : Int32) (v0_takenMany : Int32) (v0_leftBits : Int32) (v0_hasPolynomial : Int32) (v0_hasLists : Int32) (w0_attempt : Nat → Int32) : va_W := [(a0, .inr (8, [.int v0_thrown, .int v0_nodes, .int v0_arcs, .ref a0_from, .ref a0_to, .ref a0_near, .ref a0_lists, .ref a0_colours, .ref a0_shades, .ref a0_tints, .ref a0_attempt, .int v0_takenMany, .ref a0_taken, .int v0_leftBits, .ref a0_isApart, .ref a0_ways, .ref a0_next, .ref a0_splits, .ref a0_powers, .ref a0_row, .ref a0_many, .int v0_hasPolynomial, .int v0_hasLists, .ref a0_can, .ref a0_could, .ref a0_arcRow, .ref a0_order, .ref a0_isOut])), (a0_attempt, .inl (cI, 12, .inl w0_attempt))]
abbrev us_Mo_put : List Cond := .code y_Mo_put prog_10_method_45_code 3 (some .boolean) :: gtbl
abbrev rm_Mo_put : Room := { frames := 1, cells := 0, slots := 0, locals := 21 }
def m_Mo_put (F : Nat) (v0_thrown : Int32) (v0_nodes : Int32) (v0_arcs : Int32) (v0_takenMany : Int32) (v0_leftBits : Int32) (v0_hasPolynomial : Int32) (v0_hasLists : Int32) (w0_attempt : Nat → Int32) (p1 : Int32) (p2 : Int32) : Option (Int32 × Int32 × (Nat → Int32)) :=
  gM (m_Mo_isNode F 0 v0_nodes v0_arcs v0_takenMany v0_leftBits v0_hasPolynomial v0_hasLists p1) (fun q_1 =>
  if q_1 = 0 then (
    some (0, 0, w0_attempt)
  ) else (
    if p2 < ((-1) : Int32) then (
      some (0, 0, w0_attempt)
    ) else (
      if p2 ≤ (11 : Int32) then (
        gC (inb p1 12) (
        some (1, 0, upd w0_attempt p1.toNatClampNeg p2))
      ) else (
        some (0, 0, w0_attempt)
      )
    )
  ))
set_option maxHeartbeats 4000000 in
set_option maxRecDepth 100000 in
theorem c_Mo_put (l : Launch) (dC : Nat → ClassId) (dI : Nat → Nat → Nat) (cI cJ cG cZ : ClassId) (a0 a0_from a0_to a0_near a0_lists a0_colours a0_shades a0_tints a0_attempt a0_taken a0_isApart a0_ways a0_next a0_splits a0_powers a0_row a0_many a0_can a0_could a0_arcRow a0_order a0_isOut : Nat) (sz : Nat) (F : Nat) (v0_thrown : Int32) (v0_nodes : Int32) (v0_arcs : Int32) (v0_takenMany : Int32) (v0_leftBits : Int32) (v0_hasPolynomial : Int32) (v0_hasLists : Int32) (w0_attempt : Nat → Int32) (p1 : Int32) (p2 : Int32) (ret : Int32) (o_v0_thrown : Int32) (o_w0_attempt : Nat → Int32) (hm : m_Mo_put F v0_thrown v0_nodes v0_arcs v0_takenMany v0_leftBits v0_hasPolynomial v0_hasLists w0_attempt p1 p2 = some (ret, o_v0_thrown, o_w0_attempt)) : Met l y_Mo_put us_Mo_put rm_Mo_put (PcS (dC, dI) (tyL cI cJ cG cZ) [.ref a0, .int p1, .int p2] sz (wd_Mo_put cI cJ cG cZ a0 a0_from a0_to a0_near a0_lists a0_colours a0_shades a0_tints a0_attempt a0_taken a0_isApart a0_ways a0_next a0_splits a0_powers a0_row a0_many a0_can a0_could a0_arcRow a0_order a0_isOut v0_thrown v0_nodes v0_arcs v0_takenMany v0_leftBits v0_hasPolynomial v0_hasLists w0_attempt)) (va_Qi (fun (r : Int32) (_ : Unit) => ret = r ∧ bz r) (fun _ t => PoS (dC, dI) (tyL cI cJ cG cZ) (wd_Mo_put cI cJ cG cZ a0 a0_from a0_to a0_near a0_lists a0_colours a0_shades a0_tints a0_attempt a0_taken a0_isApart a0_ways a0_next a0_splits a0_powers a0_row a0_many a0_can a0_could a0_arcRow a0_order a0_isOut o_v0_thrown v0_nodes v0_arcs v0_takenMany v0_leftBits v0_hasPolynomial v0_hasLists o_w0_attempt) (va_A (wd_Mo_put cI cJ cG cZ a0 a0_from a0_to a0_near a0_lists a0_colours a0_shades a0_tints a0_attempt a0_taken a0_isApart a0_ways a0_next a0_splits a0_powers a0_row a0_many a0_can a0_could a0_arcRow a0_order a0_isOut v0_thrown v0_nodes v0_arcs v0_takenMany v0_leftBits v0_hasPolynomial v0_hasLists w0_attempt) sz) t) (va_A (wd_Mo_put cI cJ cG cZ a0 a0_from a0_to a0_near a0_lists a0_colours a0_shades a0_tints a0_attempt a0_taken a0_isApart a0_ways a0_next a0_splits a0_powers a0_row a0_many a0_can a0_could a0_arcRow a0_order a0_isOut v0_thrown v0_nodes v0_arcs v0_takenMany v0_leftBits v0_hasPolynomial v0_hasLists w0_attempt) sz)) 0 0 (va_A (wd_Mo_put cI cJ cG cZ a0 a0_from a0_to a0_near a0_lists a0_colours a0_shades a0_tints a0_attempt a0_taken a0_isApart a0_ways a0_next a0_splits a0_powers a0_row a0_many a0_can a0_could a0_arcRow a0_order a0_isOut v0_thrown v0_nodes v0_arcs v0_takenMany v0_leftBits v0_hasPolynomial v0_hasLists w0_attempt) sz) := by
  refine Met.ofW (cc := prog_10_method_45_code) (maxL := 3) (ret := (some .boolean)) (by decide) rfl ?_
  intro p e s m args below meth c s₁ B hml hv
  obtain ⟨rfl, hsz, hP, hK, hD0, hNw⟩ := hv
  have hx := B.exec
  have hb := B.bytes
  have hr := B.returns
  have htt : ∀ w ∈ gtbl, w.before _ s = true := fun w h => atoms_spec (ws := us_Mo_put) B.pre w (List.mem_cons_of_mem _ h)
  have hown : s.vm.findClass R_Mo = some m.cls := findClass_of_methodNamed B.named
  have hlocks := B.notSynchronized
  subst hsz
  have hD := hD0.self (sz := s.heap.size)
  generalize hAe : va_A (wd_Mo_put cI cJ cG cZ a0 a0_from a0_to a0_near a0_lists a0_colours a0_shades a0_tints a0_attempt a0_taken a0_isApart a0_ways a0_next a0_splits a0_powers a0_row a0_many a0_can a0_could a0_arcRow a0_order a0_isOut v0_thrown v0_nodes v0_arcs v0_takenMany v0_leftBits v0_hasPolynomial v0_hasLists w0_attempt) s.heap.size = A at hD ⊢
  have hA : ∀ q : Nat, s.heap.size ≤ q → A q := fun q h => by rw [← hAe]; exact Or.inr h
  clear hAe hD0
  have hS : va_S A s.heap s.heap [] := va_S.rf
  have hl := lv_entry ([.ref a0, .int p1, .int p2]) (n := 3) (Nat.le_of_ble_eq_true rfl)
  rw [lg_entry_eq]
  generalize (lg_sl ([.ref a0, .int p1, .int p2]) ++ List.replicate (3 - (lg_sl ([.ref a0, .int p1, .int p2])).length) Slot.unset).toArray = ls at hl ⊢
  have hl : lv_has ls 3 [(0, .ref a0), (1, .int p1), (2, .int p2)] := hl
  generalize hH : s.heap = H at hP ⊢
  have hS : va_S A s.heap H [] := hH ▸ hS
  generalize hLo : ([] : List Loc) = locs at hS ⊢
  clear hH hLo
  unfold m_Mo_put at hm
  refine lv_aload_n hx hb d_Mo_put_0 rfl (lv_at hl 0 rfl) ?_
  refine lv_iconst (v := 0) hx hb d_Mo_put_1 (by decide) ?_
  refine va_put (D := (dC, dI)) (ci := 8) (v := .int 0) (ty := .int) (C := R_Mo) (T := T_Mo) (N := 28) hx hb htt hin_Mo ty_Mo tyok_Mo nm_Mo hown hK hP hD hS 0 rfl rfl 0 (by decide) (htt _ kt_769) (fun _ h9 => h9) rfl (by decide +kernel) rfl rfl (Nat.le_of_ble_eq_true rfl) d_Mo_put_2 (fun H locs hP hD hS => ?_)
  have hP : va_P (dC, dI) vwCl (wd_Mo_put cI cJ cG cZ a0 a0_from a0_to a0_near a0_lists a0_colours a0_shades a0_tints a0_attempt a0_taken a0_isApart a0_ways a0_next a0_splits a0_powers a0_row a0_many a0_can a0_could a0_arcRow a0_order a0_isOut 0 v0_nodes v0_arcs v0_takenMany v0_leftBits v0_hasPolynomial v0_hasLists w0_attempt) H := hP
  have hD : va_D A (wd_Mo_put cI cJ cG cZ a0 a0_from a0_to a0_near a0_lists a0_colours a0_shades a0_tints a0_attempt a0_taken a0_isApart a0_ways a0_next a0_splits a0_powers a0_row a0_many a0_can a0_could a0_arcRow a0_order a0_isOut 0 v0_nodes v0_arcs v0_takenMany v0_leftBits v0_hasPolynomial v0_hasLists w0_attempt) := hD
  refine lv_aload_n hx hb d_Mo_put_5 rfl (lv_at hl 0 rfl) ?_
  refine lv_iload_n hx hb d_Mo_put_6 rfl (lv_at hl 1 rfl) ?_
  obtain ⟨q_1, hc_2, hm⟩ := gM_e hm
  have hPc : va_P (dC, dI) vwCl (wd_Mo_isNode cI cJ cG cZ a0 a0_from a0_to a0_near a0_lists a0_colours a0_shades a0_tints a0_attempt a0_taken a0_isApart a0_ways a0_next a0_splits a0_powers a0_row a0_many a0_can a0_could a0_arcRow a0_order a0_isOut 0 v0_nodes v0_arcs v0_takenMany v0_leftBits v0_hasPolynomial v0_hasLists) H := hP.sub [0] rfl
  have hDc : va_D A (wd_Mo_isNode cI cJ cG cZ a0 a0_from a0_to a0_near a0_lists a0_colours a0_shades a0_tints a0_attempt a0_taken a0_isApart a0_ways a0_next a0_splits a0_powers a0_row a0_many a0_can a0_could a0_arcRow a0_order a0_isOut 0 v0_nodes v0_arcs v0_takenMany v0_leftBits v0_hasPolynomial v0_hasLists) := hD.sub [0] (by decide) rfl
  have hFc : ∀ q, va_A (wd_Mo_isNode cI cJ cG cZ a0 a0_from a0_to a0_near a0_lists a0_colours a0_shades a0_tints a0_attempt a0_taken a0_isApart a0_ways a0_next a0_splits a0_powers a0_row a0_many a0_can a0_could a0_arcRow a0_order a0_isOut 0 v0_nodes v0_arcs v0_takenMany v0_leftBits v0_hasPolynomial v0_hasLists) H.size q → A q := va_free hD hS hA [0] rfl
  refine va_calli (va_runV (As := [.int p1]) (rest := []) ⟨hx, hb, hml, hown, htt⟩ (c_Mo_isNode l dC dI cI cJ cG cZ a0 a0_from a0_to a0_near a0_lists a0_colours a0_shades a0_tints a0_attempt a0_taken a0_isApart a0_ways a0_next a0_splits a0_powers a0_row a0_many a0_can a0_could a0_arcRow a0_order a0_isOut H.size F 0 v0_nodes v0_arcs v0_takenMany v0_leftBits v0_hasPolynomial v0_hasLists p1 q_1 hc_2) (cwV 1 htt (gdV kt_868 kt_870 kp_43 kt_10 kt_871) rfl rfl rfl (by decide +kernel) ⟨(Nat.le_of_ble_eq_true rfl), (Nat.le_of_ble_eq_true rfl)⟩) ⟨PcS_blind, va_recv hK hPc (ci := 8) (q0 := 0) rfl rfl, PcS_in hPc hK hDc hNw⟩ rfl rfl hl.1 rfl (lv_room (Nat.le_of_ble_eq_true rfl)) d_Mo_put_7 ⟨Nat.zero_le _, Nat.zero_le _⟩) hS (fun q _ h => hFc q h) hFc (fun r_3 u t H1 locs ht hvm hw hB hz1 hk1 hS => ?_)
  obtain ⟨hP1, hK1, hD1⟩ := hB
  rw [ht] at hP1
  obtain ⟨hw, hz_4⟩ := hw
  subst hw
  obtain ⟨hP, hD⟩ := va_join (wr := [(a0_attempt, .inl (cI, 12, .inl w0_attempt))]) (w1 := (wd_Mo_isNode cI cJ cG cZ a0 a0_from a0_to a0_near a0_lists a0_colours a0_shades a0_tints a0_attempt a0_taken a0_isApart a0_ways a0_next a0_splits a0_powers a0_row a0_many a0_can a0_could a0_arcRow a0_order a0_isOut 0 v0_nodes v0_arcs v0_takenMany v0_leftBits v0_hasPolynomial v0_hasLists)) hP hD [0] [1] rfl rfl (by decide) (by decide) hk1 hFc hP1 hD1
  have hP : va_P (dC, dI) vwCl (wd_Mo_put cI cJ cG cZ a0 a0_from a0_to a0_near a0_lists a0_colours a0_shades a0_tints a0_attempt a0_taken a0_isApart a0_ways a0_next a0_splits a0_powers a0_row a0_many a0_can a0_could a0_arcRow a0_order a0_isOut 0 v0_nodes v0_arcs v0_takenMany v0_leftBits v0_hasPolynomial v0_hasLists w0_attempt) H1 := hP.sub [1, 0] rfl
  have hD : va_D A (wd_Mo_put cI cJ cG cZ a0 a0_from a0_to a0_near a0_lists a0_colours a0_shades a0_tints a0_attempt a0_taken a0_isApart a0_ways a0_next a0_splits a0_powers a0_row a0_many a0_can a0_could a0_arcRow a0_order a0_isOut 0 v0_nodes v0_arcs v0_takenMany v0_leftBits v0_hasPolynomial v0_hasLists w0_attempt) := hD.sub [1, 0] (by decide) rfl
  clear hP1 hK1 hD1 hk1 hPc hDc hFc ht hvm hz1
  generalize H1 = H at hP hS ⊢
  refine lv_if_eq (tgt := 24) hx hb d_Mo_put_10 (by decide) (fun c_5 => ?_) (fun c_5 => ?_)
  · have hm := ite_t c_5 hm
    refine lv_iconst (v := 0) hx hb d_Mo_put_24 (by decide) ?_
    cases hm
    exact W.zret (ty := .boolean) hx hb hr (bz_nar (by decide : bz 0)) (fun t ht hW => ⟨⟨_, (), rfl, ⟨rfl, (by decide : bz 0)⟩, by rw [ht]; exact hP, va_K.moved hW.alike hK, hD⟩, hS.F ht⟩) hS.2.2 d_Mo_put_25
  · have hm := ite_f c_5 hm
    refine lv_iload_n hx hb d_Mo_put_13 rfl (lv_at hl 2 rfl) ?_
    refine lv_iconst (v := (-1)) hx hb d_Mo_put_14 (by decide) ?_
    refine lv_icmp_lt (tgt := 24) hx hb d_Mo_put_15 (by decide) (fun c_6 => ?_) (fun c_6 => ?_)
    · have hm := ite_t c_6 hm
      refine lv_iconst (v := 0) hx hb d_Mo_put_24 (by decide) ?_
      cases hm
      exact W.zret (ty := .boolean) hx hb hr (bz_nar (by decide : bz 0)) (fun t ht hW => ⟨⟨_, (), rfl, ⟨rfl, (by decide : bz 0)⟩, by rw [ht]; exact hP, va_K.moved hW.alike hK, hD⟩, hS.F ht⟩) hS.2.2 d_Mo_put_25
    · have hm := ite_f c_6 hm
      refine lv_iload_n hx hb d_Mo_put_18 rfl (lv_at hl 2 rfl) ?_
      refine lv_bipush (v := 11) hx hb d_Mo_put_19 (by decide) ?_
      refine lv_icmp_le (tgt := 26) hx hb d_Mo_put_21 (by decide) (fun c_7 => ?_) (fun c_7 => ?_)
      · have hm := ite_t c_7 hm
        refine lv_aload_n hx hb d_Mo_put_26 rfl (lv_at hl 0 rfl) ?_
        refine va_get (D := (dC, dI)) (ci := 8) (v := .ref a0_attempt) (C := R_Mo) (T := T_Mo) (N := 28) hx hb htt hin_Mo hown hK hP 0 rfl rfl 10 (by decide) (htt _ kt_779) (fun _ h9 => h9) rfl d_Mo_put_27 ?_
        refine lv_iload_n hx hb d_Mo_put_30 rfl (lv_at hl 1 rfl) ?_
        refine lv_iload_n hx hb d_Mo_put_31 rfl (lv_at hl 2 rfl) ?_
        obtain ⟨hi_8, hm⟩ := gC_e hm
        refine va_iast hx hb hK hP hD hS 1 0 rfl rfl (inb_vp hi_8) d_Mo_put_32 (fun H locs hP hD hS => ?_)
        have hP : va_P (dC, dI) vwCl (wd_Mo_put cI cJ cG cZ a0 a0_from a0_to a0_near a0_lists a0_colours a0_shades a0_tints a0_attempt a0_taken a0_isApart a0_ways a0_next a0_splits a0_powers a0_row a0_many a0_can a0_could a0_arcRow a0_order a0_isOut 0 v0_nodes v0_arcs v0_takenMany v0_leftBits v0_hasPolynomial v0_hasLists (upd w0_attempt p1.toNatClampNeg p2)) H := hP
        have hD : va_D A (wd_Mo_put cI cJ cG cZ a0 a0_from a0_to a0_near a0_lists a0_colours a0_shades a0_tints a0_attempt a0_taken a0_isApart a0_ways a0_next a0_splits a0_powers a0_row a0_many a0_can a0_could a0_arcRow a0_order a0_isOut 0 v0_nodes v0_arcs v0_takenMany v0_leftBits v0_hasPolynomial v0_hasLists (upd w0_attempt p1.toNatClampNeg p2)) := hD
        refine lv_iconst (v := 1) hx hb d_Mo_put_33 (by decide) ?_
        cases hm
        exact W.zret (ty := .boolean) hx hb hr (bz_nar (by decide : bz 1)) (fun t ht hW => ⟨⟨_, (), rfl, ⟨rfl, (by decide : bz 1)⟩, by rw [ht]; exact hP, va_K.moved hW.alike hK, hD⟩, hS.F ht⟩) hS.2.2 d_Mo_put_34
      · have hm := ite_f c_7 hm
        refine lv_iconst (v := 0) hx hb d_Mo_put_24 (by decide) ?_
        cases hm
        exact W.zret (ty := .boolean) hx hb hr (bz_nar (by decide : bz 0)) (fun t ht hW => ⟨⟨_, (), rfl, ⟨rfl, (by decide : bz 0)⟩, by rw [ht]; exact hP, va_K.moved hW.alike hK, hD⟩, hS.F ht⟩) hS.2.2 d_Mo_put_25
theorem d_Mo_tried_0 : decode prog_10_method_46_code 0 = .ok (.aload_n 0, 1) := by decide +kernel
theorem d_Mo_tried_1 : decode prog_10_method_46_code 1 = .ok (.iconst 0, 1) := by decide +kernel
theorem d_Mo_tried_2 : decode prog_10_method_46_code 2 = .ok (.putfield 79, 3) := by decide +kernel
theorem d_Mo_tried_5 : decode prog_10_method_46_code 5 = .ok (.aload_n 0, 1) := by decide +kernel
theorem d_Mo_tried_6 : decode prog_10_method_46_code 6 = .ok (.iload_n 1, 1) := by decide +kernel
theorem d_Mo_tried_7 : decode prog_10_method_46_code 7 = .ok (.invokevirtual 98, 3) := by decide +kernel
theorem d_Mo_tried_10 : decode prog_10_method_46_code 10 = .ok (.ifCond .eq 12, 3) := by decide +kernel
theorem d_Mo_tried_13 : decode prog_10_method_46_code 13 = .ok (.aload_n 0, 1) := by decide +kernel
theorem d_Mo_tried_14 : decode prog_10_method_46_code 14 = .ok (.getfield 31, 3) := by decide +kernel
theorem d_Mo_tried_17 : decode prog_10_method_46_code 17 = .ok (.iload_n 1, 1) := by decide +kernel
theorem d_Mo_tried_18 : decode prog_10_method_46_code 18 = .ok (.iaload, 1) := by decide +kernel
theorem d_Mo_tried_19 : decode prog_10_method_46_code 19 = .ok (.goto 4, 3) := by decide +kernel
theorem d_Mo_tried_22 : decode prog_10_method_46_code 22 = .ok (.iconst (-1), 1) := by decide +kernel
theorem d_Mo_tried_23 : decode prog_10_method_46_code 23 = .ok (.ireturn, 1) := by decide +kernel
abbrev wd_Mo_tried (cI cJ cG cZ : ClassId) (a0 a0_from a0_to a0_near a0_lists a0_colours a0_shades a0_tints a0_attempt a0_taken a0_isApart a0_ways a0_next a0_splits a0_powers a0_row a0_many a0_can a0_could a0_arcRow a0_order a0_isOut : Nat) (v0_thrown : Int32) (v0_nodes : Int32) (v0_arcs : Int32) (v0_takenMany : Int32) (v0_leftBits : Int32) (v0_hasPolynomial : Int32) (v0_hasLists : Int32) (w0_attempt : Nat → Int32) : va_W := [(a0, .inr (8, [.int v0_thrown, .int v0_nodes, .int v0_arcs, .ref a0_from, .ref a0_to, .ref a0_near, .ref a0_lists, .ref a0_colours, .ref a0_shades, .ref a0_tints, .ref a0_attempt, .int v0_takenMany, .ref a0_taken, .int v0_leftBits, .ref a0_isApart, .ref a0_ways, .ref a0_next, .ref a0_splits, .ref a0_powers, .ref a0_row, .ref a0_many, .int v0_hasPolynomial, .int v0_hasLists, .ref a0_can, .ref a0_could, .ref a0_arcRow, .ref a0_order, .ref a0_isOut])), (a0_attempt, .inl (cI, 12, .inl w0_attempt))]
abbrev us_Mo_tried : List Cond := .code y_Mo_tried prog_10_method_46_code 2 (some .int) :: gtbl
abbrev rm_Mo_tried : Room := { frames := 1, cells := 0, slots := 0, locals := 21 }
def m_Mo_tried (F : Nat) (v0_thrown : Int32) (v0_nodes : Int32) (v0_arcs : Int32) (v0_takenMany : Int32) (v0_leftBits : Int32) (v0_hasPolynomial : Int32) (v0_hasLists : Int32) (w0_attempt : Nat → Int32) (p1 : Int32) : Option (Int32 × Int32) :=
  gM (m_Mo_isNode F 0 v0_nodes v0_arcs v0_takenMany v0_leftBits v0_hasPolynomial v0_hasLists p1) (fun q_1 =>
  if q_1 = 0 then (
    some ((-1), 0)
  ) else (
    gC (inb p1 12) (
    some (w0_attempt p1.toNatClampNeg, 0))
  ))
set_option maxHeartbeats 4000000 in
set_option maxRecDepth 100000 in
theorem c_Mo_tried (l : Launch) (dC : Nat → ClassId) (dI : Nat → Nat → Nat) (cI cJ cG cZ : ClassId) (a0 a0_from a0_to a0_near a0_lists a0_colours a0_shades a0_tints a0_attempt a0_taken a0_isApart a0_ways a0_next a0_splits a0_powers a0_row a0_many a0_can a0_could a0_arcRow a0_order a0_isOut : Nat) (sz : Nat) (F : Nat) (v0_thrown : Int32) (v0_nodes : Int32) (v0_arcs : Int32) (v0_takenMany : Int32) (v0_leftBits : Int32) (v0_hasPolynomial : Int32) (v0_hasLists : Int32) (w0_attempt : Nat → Int32) (p1 : Int32) (ret : Int32) (o_v0_thrown : Int32) (hm : m_Mo_tried F v0_thrown v0_nodes v0_arcs v0_takenMany v0_leftBits v0_hasPolynomial v0_hasLists w0_attempt p1 = some (ret, o_v0_thrown)) : Met l y_Mo_tried us_Mo_tried rm_Mo_tried (PcS (dC, dI) (tyL cI cJ cG cZ) [.ref a0, .int p1] sz (wd_Mo_tried cI cJ cG cZ a0 a0_from a0_to a0_near a0_lists a0_colours a0_shades a0_tints a0_attempt a0_taken a0_isApart a0_ways a0_next a0_splits a0_powers a0_row a0_many a0_can a0_could a0_arcRow a0_order a0_isOut v0_thrown v0_nodes v0_arcs v0_takenMany v0_leftBits v0_hasPolynomial v0_hasLists w0_attempt)) (va_Qi (fun (r : Int32) (_ : Unit) => ret = r) (fun _ t => PoS (dC, dI) (tyL cI cJ cG cZ) (wd_Mo_tried cI cJ cG cZ a0 a0_from a0_to a0_near a0_lists a0_colours a0_shades a0_tints a0_attempt a0_taken a0_isApart a0_ways a0_next a0_splits a0_powers a0_row a0_many a0_can a0_could a0_arcRow a0_order a0_isOut o_v0_thrown v0_nodes v0_arcs v0_takenMany v0_leftBits v0_hasPolynomial v0_hasLists w0_attempt) (va_A (wd_Mo_tried cI cJ cG cZ a0 a0_from a0_to a0_near a0_lists a0_colours a0_shades a0_tints a0_attempt a0_taken a0_isApart a0_ways a0_next a0_splits a0_powers a0_row a0_many a0_can a0_could a0_arcRow a0_order a0_isOut v0_thrown v0_nodes v0_arcs v0_takenMany v0_leftBits v0_hasPolynomial v0_hasLists w0_attempt) sz) t) (va_A (wd_Mo_tried cI cJ cG cZ a0 a0_from a0_to a0_near a0_lists a0_colours a0_shades a0_tints a0_attempt a0_taken a0_isApart a0_ways a0_next a0_splits a0_powers a0_row a0_many a0_can a0_could a0_arcRow a0_order a0_isOut v0_thrown v0_nodes v0_arcs v0_takenMany v0_leftBits v0_hasPolynomial v0_hasLists w0_attempt) sz)) 0 0 (va_A (wd_Mo_tried cI cJ cG cZ a0 a0_from a0_to a0_near a0_lists a0_colours a0_shades a0_tints a0_attempt a0_taken a0_isApart a0_ways a0_next a0_splits a0_powers a0_row a0_many a0_can a0_could a0_arcRow a0_order a0_isOut v0_thrown v0_nodes v0_arcs v0_takenMany v0_leftBits v0_hasPolynomial v0_hasLists w0_attempt) sz) := by
  refine Met.ofW (cc := prog_10_method_46_code) (maxL := 2) (ret := (some .int)) (by decide) rfl ?_
  intro p e s m args below meth c s₁ B hml hv
  obtain ⟨rfl, hsz, hP, hK, hD0, hNw⟩ := hv
  have hx := B.exec
  have hb := B.bytes
  have hr := B.returns
  have htt : ∀ w ∈ gtbl, w.before _ s = true := fun w h => atoms_spec (ws := us_Mo_tried) B.pre w (List.mem_cons_of_mem _ h)
  have hown : s.vm.findClass R_Mo = some m.cls := findClass_of_methodNamed B.named
  have hlocks := B.notSynchronized
  subst hsz
  have hD := hD0.self (sz := s.heap.size)
  generalize hAe : va_A (wd_Mo_tried cI cJ cG cZ a0 a0_from a0_to a0_near a0_lists a0_colours a0_shades a0_tints a0_attempt a0_taken a0_isApart a0_ways a0_next a0_splits a0_powers a0_row a0_many a0_can a0_could a0_arcRow a0_order a0_isOut v0_thrown v0_nodes v0_arcs v0_takenMany v0_leftBits v0_hasPolynomial v0_hasLists w0_attempt) s.heap.size = A at hD ⊢
  have hA : ∀ q : Nat, s.heap.size ≤ q → A q := fun q h => by rw [← hAe]; exact Or.inr h
  clear hAe hD0
  have hS : va_S A s.heap s.heap [] := va_S.rf
  have hl := lv_entry ([.ref a0, .int p1]) (n := 2) (Nat.le_of_ble_eq_true rfl)
  rw [lg_entry_eq]
  generalize (lg_sl ([.ref a0, .int p1]) ++ List.replicate (2 - (lg_sl ([.ref a0, .int p1])).length) Slot.unset).toArray = ls at hl ⊢
  have hl : lv_has ls 2 [(0, .ref a0), (1, .int p1)] := hl
  generalize hH : s.heap = H at hP ⊢
  have hS : va_S A s.heap H [] := hH ▸ hS
  generalize hLo : ([] : List Loc) = locs at hS ⊢
  clear hH hLo
  unfold m_Mo_tried at hm
  refine lv_aload_n hx hb d_Mo_tried_0 rfl (lv_at hl 0 rfl) ?_
  refine lv_iconst (v := 0) hx hb d_Mo_tried_1 (by decide) ?_
  refine va_put (D := (dC, dI)) (ci := 8) (v := .int 0) (ty := .int) (C := R_Mo) (T := T_Mo) (N := 28) hx hb htt hin_Mo ty_Mo tyok_Mo nm_Mo hown hK hP hD hS 0 rfl rfl 0 (by decide) (htt _ kt_769) (fun _ h9 => h9) rfl (by decide +kernel) rfl rfl (Nat.le_of_ble_eq_true rfl) d_Mo_tried_2 (fun H locs hP hD hS => ?_)
  have hP : va_P (dC, dI) vwCl (wd_Mo_tried cI cJ cG cZ a0 a0_from a0_to a0_near a0_lists a0_colours a0_shades a0_tints a0_attempt a0_taken a0_isApart a0_ways a0_next a0_splits a0_powers a0_row a0_many a0_can a0_could a0_arcRow a0_order a0_isOut 0 v0_nodes v0_arcs v0_takenMany v0_leftBits v0_hasPolynomial v0_hasLists w0_attempt) H := hP
  have hD : va_D A (wd_Mo_tried cI cJ cG cZ a0 a0_from a0_to a0_near a0_lists a0_colours a0_shades a0_tints a0_attempt a0_taken a0_isApart a0_ways a0_next a0_splits a0_powers a0_row a0_many a0_can a0_could a0_arcRow a0_order a0_isOut 0 v0_nodes v0_arcs v0_takenMany v0_leftBits v0_hasPolynomial v0_hasLists w0_attempt) := hD
  refine lv_aload_n hx hb d_Mo_tried_5 rfl (lv_at hl 0 rfl) ?_
  refine lv_iload_n hx hb d_Mo_tried_6 rfl (lv_at hl 1 rfl) ?_
  obtain ⟨q_1, hc_2, hm⟩ := gM_e hm
  have hPc : va_P (dC, dI) vwCl (wd_Mo_isNode cI cJ cG cZ a0 a0_from a0_to a0_near a0_lists a0_colours a0_shades a0_tints a0_attempt a0_taken a0_isApart a0_ways a0_next a0_splits a0_powers a0_row a0_many a0_can a0_could a0_arcRow a0_order a0_isOut 0 v0_nodes v0_arcs v0_takenMany v0_leftBits v0_hasPolynomial v0_hasLists) H := hP.sub [0] rfl
  have hDc : va_D A (wd_Mo_isNode cI cJ cG cZ a0 a0_from a0_to a0_near a0_lists a0_colours a0_shades a0_tints a0_attempt a0_taken a0_isApart a0_ways a0_next a0_splits a0_powers a0_row a0_many a0_can a0_could a0_arcRow a0_order a0_isOut 0 v0_nodes v0_arcs v0_takenMany v0_leftBits v0_hasPolynomial v0_hasLists) := hD.sub [0] (by decide) rfl
  have hFc : ∀ q, va_A (wd_Mo_isNode cI cJ cG cZ a0 a0_from a0_to a0_near a0_lists a0_colours a0_shades a0_tints a0_attempt a0_taken a0_isApart a0_ways a0_next a0_splits a0_powers a0_row a0_many a0_can a0_could a0_arcRow a0_order a0_isOut 0 v0_nodes v0_arcs v0_takenMany v0_leftBits v0_hasPolynomial v0_hasLists) H.size q → A q := va_free hD hS hA [0] rfl
  refine va_calli (va_runV (As := [.int p1]) (rest := []) ⟨hx, hb, hml, hown, htt⟩ (c_Mo_isNode l dC dI cI cJ cG cZ a0 a0_from a0_to a0_near a0_lists a0_colours a0_shades a0_tints a0_attempt a0_taken a0_isApart a0_ways a0_next a0_splits a0_powers a0_row a0_many a0_can a0_could a0_arcRow a0_order a0_isOut H.size F 0 v0_nodes v0_arcs v0_takenMany v0_leftBits v0_hasPolynomial v0_hasLists p1 q_1 hc_2) (cwV 1 htt (gdV kt_868 kt_870 kp_43 kt_10 kt_871) rfl rfl rfl (by decide +kernel) ⟨(Nat.le_of_ble_eq_true rfl), (Nat.le_of_ble_eq_true rfl)⟩) ⟨PcS_blind, va_recv hK hPc (ci := 8) (q0 := 0) rfl rfl, PcS_in hPc hK hDc hNw⟩ rfl rfl hl.1 rfl (lv_room (Nat.le_of_ble_eq_true rfl)) d_Mo_tried_7 ⟨Nat.zero_le _, Nat.zero_le _⟩) hS (fun q _ h => hFc q h) hFc (fun r_3 u t H1 locs ht hvm hw hB hz1 hk1 hS => ?_)
  obtain ⟨hP1, hK1, hD1⟩ := hB
  rw [ht] at hP1
  obtain ⟨hw, hz_4⟩ := hw
  subst hw
  obtain ⟨hP, hD⟩ := va_join (wr := [(a0_attempt, .inl (cI, 12, .inl w0_attempt))]) (w1 := (wd_Mo_isNode cI cJ cG cZ a0 a0_from a0_to a0_near a0_lists a0_colours a0_shades a0_tints a0_attempt a0_taken a0_isApart a0_ways a0_next a0_splits a0_powers a0_row a0_many a0_can a0_could a0_arcRow a0_order a0_isOut 0 v0_nodes v0_arcs v0_takenMany v0_leftBits v0_hasPolynomial v0_hasLists)) hP hD [0] [1] rfl rfl (by decide) (by decide) hk1 hFc hP1 hD1
  have hP : va_P (dC, dI) vwCl (wd_Mo_tried cI cJ cG cZ a0 a0_from a0_to a0_near a0_lists a0_colours a0_shades a0_tints a0_attempt a0_taken a0_isApart a0_ways a0_next a0_splits a0_powers a0_row a0_many a0_can a0_could a0_arcRow a0_order a0_isOut 0 v0_nodes v0_arcs v0_takenMany v0_leftBits v0_hasPolynomial v0_hasLists w0_attempt) H1 := hP.sub [1, 0] rfl
  have hD : va_D A (wd_Mo_tried cI cJ cG cZ a0 a0_from a0_to a0_near a0_lists a0_colours a0_shades a0_tints a0_attempt a0_taken a0_isApart a0_ways a0_next a0_splits a0_powers a0_row a0_many a0_can a0_could a0_arcRow a0_order a0_isOut 0 v0_nodes v0_arcs v0_takenMany v0_leftBits v0_hasPolynomial v0_hasLists w0_attempt) := hD.sub [1, 0] (by decide) rfl
  clear hP1 hK1 hD1 hk1 hPc hDc hFc ht hvm hz1
  generalize H1 = H at hP hS ⊢
  refine lv_if_eq (tgt := 22) hx hb d_Mo_tried_10 (by decide) (fun c_5 => ?_) (fun c_5 => ?_)
  · have hm := ite_t c_5 hm
    refine lv_iconst (v := (-1)) hx hb d_Mo_tried_22 (by decide) ?_
    cases hm
    exact W.iret hx hb hr (fun t ht hW => ⟨⟨_, (), rfl, rfl, by rw [ht]; exact hP, va_K.moved hW.alike hK, hD⟩, hS.F ht⟩) hS.2.2 d_Mo_tried_23
  · have hm := ite_f c_5 hm
    refine lv_aload_n hx hb d_Mo_tried_13 rfl (lv_at hl 0 rfl) ?_
    refine va_get (D := (dC, dI)) (ci := 8) (v := .ref a0_attempt) (C := R_Mo) (T := T_Mo) (N := 28) hx hb htt hin_Mo hown hK hP 0 rfl rfl 10 (by decide) (htt _ kt_779) (fun _ h9 => h9) rfl d_Mo_tried_14 ?_
    refine lv_iload_n hx hb d_Mo_tried_17 rfl (lv_at hl 1 rfl) ?_
    obtain ⟨hi_6, hm⟩ := gC_e hm
    refine va_iald hx hb hK hP 1 0 rfl rfl (inb_vp hi_6) d_Mo_tried_18 ?_
    refine lv_goto (tgt := 23) hx hb d_Mo_tried_19 (by decide) ?_
    cases hm
    exact W.iret hx hb hr (fun t ht hW => ⟨⟨_, (), rfl, rfl, by rw [ht]; exact hP, va_K.moved hW.alike hK, hD⟩, hS.F ht⟩) hS.2.2 d_Mo_tried_23
theorem d_Mo_faults_0 : decode prog_10_method_47_code 0 = .ok (.aload_n 0, 1) := by decide +kernel
theorem d_Mo_faults_1 : decode prog_10_method_47_code 1 = .ok (.iconst 0, 1) := by decide +kernel
theorem d_Mo_faults_2 : decode prog_10_method_47_code 2 = .ok (.putfield 79, 3) := by decide +kernel
theorem d_Mo_faults_5 : decode prog_10_method_47_code 5 = .ok (.iconst 0, 1) := by decide +kernel
theorem d_Mo_faults_6 : decode prog_10_method_47_code 6 = .ok (.istore_n 1, 1) := by decide +kernel
theorem d_Mo_faults_7 : decode prog_10_method_47_code 7 = .ok (.iconst 0, 1) := by decide +kernel
theorem d_Mo_faults_8 : decode prog_10_method_47_code 8 = .ok (.istore_n 2, 1) := by decide +kernel
theorem d_Mo_faults_9 : decode prog_10_method_47_code 9 = .ok (.iload_n 2, 1) := by decide +kernel
theorem d_Mo_faults_10 : decode prog_10_method_47_code 10 = .ok (.aload_n 0, 1) := by decide +kernel
theorem d_Mo_faults_11 : decode prog_10_method_47_code 11 = .ok (.getfield 89, 3) := by decide +kernel
theorem d_Mo_faults_14 : decode prog_10_method_47_code 14 = .ok (.if_icmp .ge 57, 3) := by decide +kernel
theorem d_Mo_faults_17 : decode prog_10_method_47_code 17 = .ok (.iload_n 1, 1) := by decide +kernel
theorem d_Mo_faults_18 : decode prog_10_method_47_code 18 = .ok (.aload_n 0, 1) := by decide +kernel
theorem d_Mo_faults_19 : decode prog_10_method_47_code 19 = .ok (.getfield 31, 3) := by decide +kernel
theorem d_Mo_faults_22 : decode prog_10_method_47_code 22 = .ok (.aload_n 0, 1) := by decide +kernel
theorem d_Mo_faults_23 : decode prog_10_method_47_code 23 = .ok (.getfield 7, 3) := by decide +kernel
theorem d_Mo_faults_26 : decode prog_10_method_47_code 26 = .ok (.iload_n 2, 1) := by decide +kernel
theorem d_Mo_faults_27 : decode prog_10_method_47_code 27 = .ok (.iaload, 1) := by decide +kernel
theorem d_Mo_faults_28 : decode prog_10_method_47_code 28 = .ok (.iaload, 1) := by decide +kernel
theorem d_Mo_faults_29 : decode prog_10_method_47_code 29 = .ok (.iconst (-1), 1) := by decide +kernel
theorem d_Mo_faults_30 : decode prog_10_method_47_code 30 = .ok (.if_icmp .eq 32, 3) := by decide +kernel
theorem d_Mo_faults_33 : decode prog_10_method_47_code 33 = .ok (.aload_n 0, 1) := by decide +kernel
theorem d_Mo_faults_34 : decode prog_10_method_47_code 34 = .ok (.getfield 31, 3) := by decide +kernel
theorem d_Mo_faults_37 : decode prog_10_method_47_code 37 = .ok (.aload_n 0, 1) := by decide +kernel
theorem d_Mo_faults_38 : decode prog_10_method_47_code 38 = .ok (.getfield 7, 3) := by decide +kernel
theorem d_Mo_faults_41 : decode prog_10_method_47_code 41 = .ok (.iload_n 2, 1) := by decide +kernel
theorem d_Mo_faults_42 : decode prog_10_method_47_code 42 = .ok (.iaload, 1) := by decide +kernel
theorem d_Mo_faults_43 : decode prog_10_method_47_code 43 = .ok (.iaload, 1) := by decide +kernel
theorem d_Mo_faults_44 : decode prog_10_method_47_code 44 = .ok (.aload_n 0, 1) := by decide +kernel
theorem d_Mo_faults_45 : decode prog_10_method_47_code 45 = .ok (.getfield 31, 3) := by decide +kernel
theorem d_Mo_faults_48 : decode prog_10_method_47_code 48 = .ok (.aload_n 0, 1) := by decide +kernel
theorem d_Mo_faults_49 : decode prog_10_method_47_code 49 = .ok (.getfield 13, 3) := by decide +kernel
theorem d_Mo_faults_52 : decode prog_10_method_47_code 52 = .ok (.iload_n 2, 1) := by decide +kernel
theorem d_Mo_faults_53 : decode prog_10_method_47_code 53 = .ok (.iaload, 1) := by decide +kernel
theorem d_Mo_faults_54 : decode prog_10_method_47_code 54 = .ok (.iaload, 1) := by decide +kernel
theorem d_Mo_faults_55 : decode prog_10_method_47_code 55 = .ok (.if_icmp .ne 7, 3) := by decide +kernel
theorem d_Mo_faults_58 : decode prog_10_method_47_code 58 = .ok (.iconst 1, 1) := by decide +kernel
theorem d_Mo_faults_59 : decode prog_10_method_47_code 59 = .ok (.goto 4, 3) := by decide +kernel
theorem d_Mo_faults_62 : decode prog_10_method_47_code 62 = .ok (.iconst 0, 1) := by decide +kernel
theorem d_Mo_faults_63 : decode prog_10_method_47_code 63 = .ok (.iadd, 1) := by decide +kernel
theorem d_Mo_faults_64 : decode prog_10_method_47_code 64 = .ok (.istore_n 1, 1) := by decide +kernel
theorem d_Mo_faults_65 : decode prog_10_method_47_code 65 = .ok (.iinc 2 1, 3) := by decide +kernel
theorem d_Mo_faults_68 : decode prog_10_method_47_code 68 = .ok (.goto (-59), 3) := by decide +kernel
theorem d_Mo_faults_71 : decode prog_10_method_47_code 71 = .ok (.iload_n 1, 1) := by decide +kernel
theorem d_Mo_faults_72 : decode prog_10_method_47_code 72 = .ok (.ireturn, 1) := by decide +kernel
abbrev wd_Mo_faults (cI cJ cG cZ : ClassId) (a0 a0_from a0_to a0_near a0_lists a0_colours a0_shades a0_tints a0_attempt a0_taken a0_isApart a0_ways a0_next a0_splits a0_powers a0_row a0_many a0_can a0_could a0_arcRow a0_order a0_isOut : Nat) (v0_thrown : Int32) (v0_nodes : Int32) (v0_arcs : Int32) (v0_takenMany : Int32) (v0_leftBits : Int32) (v0_hasPolynomial : Int32) (v0_hasLists : Int32) (w0_from : Nat → Int32) (w0_to : Nat → Int32) (w0_attempt : Nat → Int32) : va_W := [(a0, .inr (8, [.int v0_thrown, .int v0_nodes, .int v0_arcs, .ref a0_from, .ref a0_to, .ref a0_near, .ref a0_lists, .ref a0_colours, .ref a0_shades, .ref a0_tints, .ref a0_attempt, .int v0_takenMany, .ref a0_taken, .int v0_leftBits, .ref a0_isApart, .ref a0_ways, .ref a0_next, .ref a0_splits, .ref a0_powers, .ref a0_row, .ref a0_many, .int v0_hasPolynomial, .int v0_hasLists, .ref a0_can, .ref a0_could, .ref a0_arcRow, .ref a0_order, .ref a0_isOut])), (a0_from, .inl (cI, 40, .inl w0_from)), (a0_to, .inl (cI, 40, .inl w0_to)), (a0_attempt, .inl (cI, 12, .inl w0_attempt))]
abbrev us_Mo_faults : List Cond := .code y_Mo_faults prog_10_method_47_code 3 (some .int) :: gtbl
abbrev rm_Mo_faults : Room := { frames := 0, cells := 0, slots := 0, locals := 0 }
def m_Mo_faults (F : Nat) (v0_thrown : Int32) (v0_nodes : Int32) (v0_arcs : Int32) (v0_takenMany : Int32) (v0_leftBits : Int32) (v0_hasPolynomial : Int32) (v0_hasLists : Int32) (w0_from : Nat → Int32) (w0_to : Nat → Int32) (w0_attempt : Nat → Int32) : Option (Int32 × Int32) :=
  gL (fun (k_9 : (Int32 × Int32) → Option (Int32 × Int32)) (z_9 : Int32 × Int32) => match z_9 with
  | (x1_1, x2_2) =>
  if v0_arcs ≤ x2_2 then (
    some (x1_1, 0)
  ) else (
    gC (inb x2_2 40) (
    gC (inb (w0_from x2_2.toNatClampNeg) 12) (
    if (w0_attempt (w0_from x2_2.toNatClampNeg).toNatClampNeg) = ((-1) : Int32) then (
      gB (x1_1 + 0) (fun x1_7 =>
      gB (x2_2 + 1) (fun x2_8 =>
      k_9 (x1_7, x2_8)))
    ) else (
      gC (inb x2_2 40) (
      gC (inb (w0_from x2_2.toNatClampNeg) 12) (
      gC (inb x2_2 40) (
      gC (inb (w0_to x2_2.toNatClampNeg) 12) (
      if (w0_attempt (w0_from x2_2.toNatClampNeg).toNatClampNeg) = (w0_attempt (w0_to x2_2.toNatClampNeg).toNatClampNeg) then (
        gB (x1_1 + 1) (fun x1_16 =>
        gB (x2_2 + 1) (fun x2_17 =>
        k_9 (x1_16, x2_17)))
      ) else (
        gB (x1_1 + 0) (fun x1_14 =>
        gB (x2_2 + 1) (fun x2_15 =>
        k_9 (x1_14, x2_15)))
      )))))
    )))
  )
  ) F (0, 0)
set_option maxHeartbeats 4000000 in
set_option maxRecDepth 100000 in
theorem c_Mo_faults (l : Launch) (dC : Nat → ClassId) (dI : Nat → Nat → Nat) (cI cJ cG cZ : ClassId) (a0 a0_from a0_to a0_near a0_lists a0_colours a0_shades a0_tints a0_attempt a0_taken a0_isApart a0_ways a0_next a0_splits a0_powers a0_row a0_many a0_can a0_could a0_arcRow a0_order a0_isOut : Nat) (sz : Nat) (F : Nat) (v0_thrown : Int32) (v0_nodes : Int32) (v0_arcs : Int32) (v0_takenMany : Int32) (v0_leftBits : Int32) (v0_hasPolynomial : Int32) (v0_hasLists : Int32) (w0_from : Nat → Int32) (w0_to : Nat → Int32) (w0_attempt : Nat → Int32) (ret : Int32) (o_v0_thrown : Int32) (hm : m_Mo_faults F v0_thrown v0_nodes v0_arcs v0_takenMany v0_leftBits v0_hasPolynomial v0_hasLists w0_from w0_to w0_attempt = some (ret, o_v0_thrown)) : Met l y_Mo_faults us_Mo_faults rm_Mo_faults (PcS (dC, dI) (tyL cI cJ cG cZ) [.ref a0] sz (wd_Mo_faults cI cJ cG cZ a0 a0_from a0_to a0_near a0_lists a0_colours a0_shades a0_tints a0_attempt a0_taken a0_isApart a0_ways a0_next a0_splits a0_powers a0_row a0_many a0_can a0_could a0_arcRow a0_order a0_isOut v0_thrown v0_nodes v0_arcs v0_takenMany v0_leftBits v0_hasPolynomial v0_hasLists w0_from w0_to w0_attempt)) (va_Qi (fun (r : Int32) (_ : Unit) => ret = r) (fun _ t => PoS (dC, dI) (tyL cI cJ cG cZ) (wd_Mo_faults cI cJ cG cZ a0 a0_from a0_to a0_near a0_lists a0_colours a0_shades a0_tints a0_attempt a0_taken a0_isApart a0_ways a0_next a0_splits a0_powers a0_row a0_many a0_can a0_could a0_arcRow a0_order a0_isOut o_v0_thrown v0_nodes v0_arcs v0_takenMany v0_leftBits v0_hasPolynomial v0_hasLists w0_from w0_to w0_attempt) (va_A (wd_Mo_faults cI cJ cG cZ a0 a0_from a0_to a0_near a0_lists a0_colours a0_shades a0_tints a0_attempt a0_taken a0_isApart a0_ways a0_next a0_splits a0_powers a0_row a0_many a0_can a0_could a0_arcRow a0_order a0_isOut v0_thrown v0_nodes v0_arcs v0_takenMany v0_leftBits v0_hasPolynomial v0_hasLists w0_from w0_to w0_attempt) sz) t) (va_A (wd_Mo_faults cI cJ cG cZ a0 a0_from a0_to a0_near a0_lists a0_colours a0_shades a0_tints a0_attempt a0_taken a0_isApart a0_ways a0_next a0_splits a0_powers a0_row a0_many a0_can a0_could a0_arcRow a0_order a0_isOut v0_thrown v0_nodes v0_arcs v0_takenMany v0_leftBits v0_hasPolynomial v0_hasLists w0_from w0_to w0_attempt) sz)) 0 0 (va_A (wd_Mo_faults cI cJ cG cZ a0 a0_from a0_to a0_near a0_lists a0_colours a0_shades a0_tints a0_attempt a0_taken a0_isApart a0_ways a0_next a0_splits a0_powers a0_row a0_many a0_can a0_could a0_arcRow a0_order a0_isOut v0_thrown v0_nodes v0_arcs v0_takenMany v0_leftBits v0_hasPolynomial v0_hasLists w0_from w0_to w0_attempt) sz) := by
  refine Met.ofW (cc := prog_10_method_47_code) (maxL := 3) (ret := (some .int)) (by decide) rfl ?_
  intro p e s m args below meth c s₁ B hml hv
  obtain ⟨rfl, hsz, hP, hK, hD0, hNw⟩ := hv
  have hx := B.exec
  have hb := B.bytes
  have hr := B.returns
  have htt : ∀ w ∈ gtbl, w.before _ s = true := fun w h => atoms_spec (ws := us_Mo_faults) B.pre w (List.mem_cons_of_mem _ h)
  have hown : s.vm.findClass R_Mo = some m.cls := findClass_of_methodNamed B.named
  have hlocks := B.notSynchronized
  subst hsz
  have hD := hD0.self (sz := s.heap.size)
  generalize hAe : va_A (wd_Mo_faults cI cJ cG cZ a0 a0_from a0_to a0_near a0_lists a0_colours a0_shades a0_tints a0_attempt a0_taken a0_isApart a0_ways a0_next a0_splits a0_powers a0_row a0_many a0_can a0_could a0_arcRow a0_order a0_isOut v0_thrown v0_nodes v0_arcs v0_takenMany v0_leftBits v0_hasPolynomial v0_hasLists w0_from w0_to w0_attempt) s.heap.size = A at hD ⊢
  have hA : ∀ q : Nat, s.heap.size ≤ q → A q := fun q h => by rw [← hAe]; exact Or.inr h
  clear hAe hD0
  have hS : va_S A s.heap s.heap [] := va_S.rf
  have hl := lv_entry ([.ref a0]) (n := 3) (Nat.le_of_ble_eq_true rfl)
  rw [lg_entry_eq]
  generalize (lg_sl ([.ref a0]) ++ List.replicate (3 - (lg_sl ([.ref a0])).length) Slot.unset).toArray = ls at hl ⊢
  have hl : lv_has ls 3 [(0, .ref a0)] := hl
  generalize hH : s.heap = H at hP ⊢
  have hS : va_S A s.heap H [] := hH ▸ hS
  generalize hLo : ([] : List Loc) = locs at hS ⊢
  clear hH hLo
  unfold m_Mo_faults at hm
  refine lv_aload_n hx hb d_Mo_faults_0 rfl (lv_at hl 0 rfl) ?_
  refine lv_iconst (v := 0) hx hb d_Mo_faults_1 (by decide) ?_
  refine va_put (D := (dC, dI)) (ci := 8) (v := .int 0) (ty := .int) (C := R_Mo) (T := T_Mo) (N := 28) hx hb htt hin_Mo ty_Mo tyok_Mo nm_Mo hown hK hP hD hS 0 rfl rfl 0 (by decide) (htt _ kt_769) (fun _ h9 => h9) rfl (by decide +kernel) rfl rfl (Nat.le_of_ble_eq_true rfl) d_Mo_faults_2 (fun H locs hP hD hS => ?_)
  have hP : va_P (dC, dI) vwCl (wd_Mo_faults cI cJ cG cZ a0 a0_from a0_to a0_near a0_lists a0_colours a0_shades a0_tints a0_attempt a0_taken a0_isApart a0_ways a0_next a0_splits a0_powers a0_row a0_many a0_can a0_could a0_arcRow a0_order a0_isOut 0 v0_nodes v0_arcs v0_takenMany v0_leftBits v0_hasPolynomial v0_hasLists w0_from w0_to w0_attempt) H := hP
  have hD : va_D A (wd_Mo_faults cI cJ cG cZ a0 a0_from a0_to a0_near a0_lists a0_colours a0_shades a0_tints a0_attempt a0_taken a0_isApart a0_ways a0_next a0_splits a0_powers a0_row a0_many a0_can a0_could a0_arcRow a0_order a0_isOut 0 v0_nodes v0_arcs v0_takenMany v0_leftBits v0_hasPolynomial v0_hasLists w0_from w0_to w0_attempt) := hD
  refine lv_iconst (v := 0) hx hb d_Mo_faults_5 (by decide) ?_
  refine lv_istore_n (lv' := [(1, .int 0), (0, .ref a0)]) hx hb d_Mo_faults_6 rfl hl (by decide) rfl (fun ls hl => ?_)
  refine lv_iconst (v := 0) hx hb d_Mo_faults_7 (by decide) ?_
  refine lv_istore_n (lv' := [(2, .int 0), (1, .int 0), (0, .ref a0)]) hx hb d_Mo_faults_8 rfl hl (by decide) rfl (fun ls hl => ?_)
  refine gL_e (P := (fun (z_9 : Int32 × Int32) => ∀ (x1_1 : Int32), ∀ (x2_2 : Int32), z_9 = (x1_1, x2_2) → ∀ (ls : Array Slot) (H : Heap) (locs : List Loc), lv_has ls 3 [(0, .ref a0), (1, .int x1_1), (2, .int x2_2)] → va_P (dC, dI) vwCl (wd_Mo_faults cI cJ cG cZ a0 a0_from a0_to a0_near a0_lists a0_colours a0_shades a0_tints a0_attempt a0_taken a0_isApart a0_ways a0_next a0_splits a0_powers a0_row a0_many a0_can a0_could a0_arcRow a0_order a0_isOut 0 v0_nodes v0_arcs v0_takenMany v0_leftBits v0_hasPolynomial v0_hasLists w0_from w0_to w0_attempt) H → va_D A (wd_Mo_faults cI cJ cG cZ a0 a0_from a0_to a0_near a0_lists a0_colours a0_shades a0_tints a0_attempt a0_taken a0_isApart a0_ways a0_next a0_splits a0_powers a0_row a0_many a0_can a0_could a0_arcRow a0_order a0_isOut 0 v0_nodes v0_arcs v0_takenMany v0_leftBits v0_hasPolynomial v0_hasLists w0_from w0_to w0_attempt) → va_S A s.heap H locs → W p l e (headSpec us_Mo_faults rm_Mo_faults).room s m ([.ref a0] : List Value).toArray below meth c H locs 0 0 (MQ below (va_Qi (fun (r : Int32) (_ : Unit) => ret = r) (fun _ t => PoS (dC, dI) (tyL cI cJ cG cZ) (wd_Mo_faults cI cJ cG cZ a0 a0_from a0_to a0_near a0_lists a0_colours a0_shades a0_tints a0_attempt a0_taken a0_isApart a0_ways a0_next a0_splits a0_powers a0_row a0_many a0_can a0_could a0_arcRow a0_order a0_isOut o_v0_thrown v0_nodes v0_arcs v0_takenMany v0_leftBits v0_hasPolynomial v0_hasLists w0_from w0_to w0_attempt) A t) A) ([.ref a0] : List Value).toArray s 0 0 A) (F0 m 9 ls []))) hm (fun k_9 z_9 ih_9 hm => ?_) _ _ rfl ls H locs (lv_sub hl [2, 1, 0] rfl) hP hD hS
  intro x1_1 x2_2 hz ls H locs hl hP hD hS
  subst hz
  dsimp only at hm
  refine lv_iload_n hx hb d_Mo_faults_9 rfl (lv_at hl 2 rfl) ?_
  refine lv_aload_n hx hb d_Mo_faults_10 rfl (lv_at hl 0 rfl) ?_
  refine va_get (D := (dC, dI)) (ci := 8) (v := .int v0_arcs) (C := R_Mo) (T := T_Mo) (N := 28) hx hb htt hin_Mo hown hK hP 0 rfl rfl 2 (by decide) (htt _ kt_771) (fun _ h9 => h9) rfl d_Mo_faults_11 ?_
  refine lv_icmp_ge (tgt := 71) hx hb d_Mo_faults_14 (by decide) (fun c_3 => ?_) (fun c_3 => ?_)
  · have hm := ite_t c_3 hm
    refine lv_iload_n hx hb d_Mo_faults_71 rfl (lv_at hl 1 rfl) ?_
    cases hm
    exact W.iret hx hb hr (fun t ht hW => ⟨⟨_, (), rfl, rfl, by rw [ht]; exact hP, va_K.moved hW.alike hK, hD⟩, hS.F ht⟩) hS.2.2 d_Mo_faults_72
  · have hm := ite_f c_3 hm
    refine lv_iload_n hx hb d_Mo_faults_17 rfl (lv_at hl 1 rfl) ?_
    refine lv_aload_n hx hb d_Mo_faults_18 rfl (lv_at hl 0 rfl) ?_
    refine va_get (D := (dC, dI)) (ci := 8) (v := .ref a0_attempt) (C := R_Mo) (T := T_Mo) (N := 28) hx hb htt hin_Mo hown hK hP 0 rfl rfl 10 (by decide) (htt _ kt_779) (fun _ h9 => h9) rfl d_Mo_faults_19 ?_
    refine lv_aload_n hx hb d_Mo_faults_22 rfl (lv_at hl 0 rfl) ?_
    refine va_get (D := (dC, dI)) (ci := 8) (v := .ref a0_from) (C := R_Mo) (T := T_Mo) (N := 28) hx hb htt hin_Mo hown hK hP 0 rfl rfl 3 (by decide) (htt _ kt_772) (fun _ h9 => h9) rfl d_Mo_faults_23 ?_
    refine lv_iload_n hx hb d_Mo_faults_26 rfl (lv_at hl 2 rfl) ?_
    obtain ⟨hi_4, hm⟩ := gC_e hm
    refine va_iald hx hb hK hP 1 0 rfl rfl (inb_vp hi_4) d_Mo_faults_27 ?_
    obtain ⟨hi_5, hm⟩ := gC_e hm
    refine va_iald hx hb hK hP 3 0 rfl rfl (inb_vp hi_5) d_Mo_faults_28 ?_
    refine lv_iconst (v := (-1)) hx hb d_Mo_faults_29 (by decide) ?_
    refine lv_icmp_eq (tgt := 62) hx hb d_Mo_faults_30 (by decide) (fun c_6 => ?_) (fun c_6 => ?_)
    · have hm := ite_t c_6 hm
      refine lv_iconst (v := 0) hx hb d_Mo_faults_62 (by decide) ?_
      refine lv_iadd hx hb d_Mo_faults_63 ?_
      refine lv_topi (fun x1_7 ex1_7 => ?_)
      have hm := gB_at ex1_7 hm
      refine lv_istore_n (lv' := [(1, .int x1_7), (0, .ref a0), (2, .int x2_2)]) hx hb d_Mo_faults_64 rfl hl (by decide) rfl (fun ls hl => ?_)
      obtain ⟨x2_8, ex2_8⟩ : ∃ y : Int32, y = x2_2 + 1 := ⟨_, rfl⟩
      have hm := gB_at ex2_8 hm
      refine lv_iinc (v := x2_8) (lv' := [(2, .int x2_8), (1, .int x1_7), (0, .ref a0)]) hx hb d_Mo_faults_65 hl (k := 2) rfl (by rw [ex2_8]; rfl) (by decide) rfl (fun ls hl => ?_)
      refine lv_goto (tgt := 9) hx hb d_Mo_faults_68 (by decide) ?_
      exact ih_9 _ hm _ _ rfl ls H locs (lv_sub hl [2, 1, 0] rfl) hP hD hS
    · have hm := ite_f c_6 hm
      refine lv_aload_n hx hb d_Mo_faults_33 rfl (lv_at hl 0 rfl) ?_
      refine va_get (D := (dC, dI)) (ci := 8) (v := .ref a0_attempt) (C := R_Mo) (T := T_Mo) (N := 28) hx hb htt hin_Mo hown hK hP 0 rfl rfl 10 (by decide) (htt _ kt_779) (fun _ h9 => h9) rfl d_Mo_faults_34 ?_
      refine lv_aload_n hx hb d_Mo_faults_37 rfl (lv_at hl 0 rfl) ?_
      refine va_get (D := (dC, dI)) (ci := 8) (v := .ref a0_from) (C := R_Mo) (T := T_Mo) (N := 28) hx hb htt hin_Mo hown hK hP 0 rfl rfl 3 (by decide) (htt _ kt_772) (fun _ h9 => h9) rfl d_Mo_faults_38 ?_
      refine lv_iload_n hx hb d_Mo_faults_41 rfl (lv_at hl 2 rfl) ?_
      obtain ⟨hi_9, hm⟩ := gC_e hm
      refine va_iald hx hb hK hP 1 0 rfl rfl (inb_vp hi_9) d_Mo_faults_42 ?_
      obtain ⟨hi_10, hm⟩ := gC_e hm
      refine va_iald hx hb hK hP 3 0 rfl rfl (inb_vp hi_10) d_Mo_faults_43 ?_
      refine lv_aload_n hx hb d_Mo_faults_44 rfl (lv_at hl 0 rfl) ?_
      refine va_get (D := (dC, dI)) (ci := 8) (v := .ref a0_attempt) (C := R_Mo) (T := T_Mo) (N := 28) hx hb htt hin_Mo hown hK hP 0 rfl rfl 10 (by decide) (htt _ kt_779) (fun _ h9 => h9) rfl d_Mo_faults_45 ?_
      refine lv_aload_n hx hb d_Mo_faults_48 rfl (lv_at hl 0 rfl) ?_
      refine va_get (D := (dC, dI)) (ci := 8) (v := .ref a0_to) (C := R_Mo) (T := T_Mo) (N := 28) hx hb htt hin_Mo hown hK hP 0 rfl rfl 4 (by decide) (htt _ kt_773) (fun _ h9 => h9) rfl d_Mo_faults_49 ?_
      refine lv_iload_n hx hb d_Mo_faults_52 rfl (lv_at hl 2 rfl) ?_
      obtain ⟨hi_11, hm⟩ := gC_e hm
      refine va_iald hx hb hK hP 2 0 rfl rfl (inb_vp hi_11) d_Mo_faults_53 ?_
      obtain ⟨hi_12, hm⟩ := gC_e hm
      refine va_iald hx hb hK hP 3 0 rfl rfl (inb_vp hi_12) d_Mo_faults_54 ?_
      refine lv_icmp_ne (tgt := 62) hx hb d_Mo_faults_55 (by decide) (fun c_13 => ?_) (fun c_13 => ?_)
      · have hm := ite_f c_13 hm
        refine lv_iconst (v := 0) hx hb d_Mo_faults_62 (by decide) ?_
        refine lv_iadd hx hb d_Mo_faults_63 ?_
        refine lv_topi (fun x1_14 ex1_14 => ?_)
        have hm := gB_at ex1_14 hm
        refine lv_istore_n (lv' := [(1, .int x1_14), (0, .ref a0), (2, .int x2_2)]) hx hb d_Mo_faults_64 rfl hl (by decide) rfl (fun ls hl => ?_)
        obtain ⟨x2_15, ex2_15⟩ : ∃ y : Int32, y = x2_2 + 1 := ⟨_, rfl⟩
        have hm := gB_at ex2_15 hm
        refine lv_iinc (v := x2_15) (lv' := [(2, .int x2_15), (1, .int x1_14), (0, .ref a0)]) hx hb d_Mo_faults_65 hl (k := 2) rfl (by rw [ex2_15]; rfl) (by decide) rfl (fun ls hl => ?_)
        refine lv_goto (tgt := 9) hx hb d_Mo_faults_68 (by decide) ?_
        exact ih_9 _ hm _ _ rfl ls H locs (lv_sub hl [2, 1, 0] rfl) hP hD hS
      · have hm := ite_t c_13 hm
        refine lv_iconst (v := 1) hx hb d_Mo_faults_58 (by decide) ?_
        refine lv_goto (tgt := 63) hx hb d_Mo_faults_59 (by decide) ?_
        refine lv_iadd hx hb d_Mo_faults_63 ?_
        refine lv_topi (fun x1_16 ex1_16 => ?_)
        have hm := gB_at ex1_16 hm
        refine lv_istore_n (lv' := [(1, .int x1_16), (0, .ref a0), (2, .int x2_2)]) hx hb d_Mo_faults_64 rfl hl (by decide) rfl (fun ls hl => ?_)
        obtain ⟨x2_17, ex2_17⟩ : ∃ y : Int32, y = x2_2 + 1 := ⟨_, rfl⟩
        have hm := gB_at ex2_17 hm
        refine lv_iinc (v := x2_17) (lv' := [(2, .int x2_17), (1, .int x1_16), (0, .ref a0)]) hx hb d_Mo_faults_65 hl (k := 2) rfl (by rw [ex2_17]; rfl) (by decide) rfl (fun ls hl => ?_)
        refine lv_goto (tgt := 9) hx hb d_Mo_faults_68 (by decide) ?_
        exact ih_9 _ hm _ _ rfl ls H locs (lv_sub hl [2, 1, 0] rfl) hP hD hS
theorem d_Mo_turn_0 : decode prog_10_method_48_code 0 = .ok (.aload_n 0, 1) := by decide +kernel
theorem d_Mo_turn_1 : decode prog_10_method_48_code 1 = .ok (.iconst 0, 1) := by decide +kernel
theorem d_Mo_turn_2 : decode prog_10_method_48_code 2 = .ok (.putfield 79, 3) := by decide +kernel
theorem d_Mo_turn_5 : decode prog_10_method_48_code 5 = .ok (.aload_n 0, 1) := by decide +kernel
theorem d_Mo_turn_6 : decode prog_10_method_48_code 6 = .ok (.iload_n 1, 1) := by decide +kernel
theorem d_Mo_turn_7 : decode prog_10_method_48_code 7 = .ok (.invokevirtual 98, 3) := by decide +kernel
theorem d_Mo_turn_10 : decode prog_10_method_48_code 10 = .ok (.ifCond .eq 33, 3) := by decide +kernel
theorem d_Mo_turn_13 : decode prog_10_method_48_code 13 = .ok (.iload_n 2, 1) := by decide +kernel
theorem d_Mo_turn_14 : decode prog_10_method_48_code 14 = .ok (.ifCond .lt 29, 3) := by decide +kernel
theorem d_Mo_turn_17 : decode prog_10_method_48_code 17 = .ok (.iload_n 2, 1) := by decide +kernel
theorem d_Mo_turn_18 : decode prog_10_method_48_code 18 = .ok (.bipush 11, 2) := by decide +kernel
theorem d_Mo_turn_20 : decode prog_10_method_48_code 20 = .ok (.if_icmp .gt 23, 3) := by decide +kernel
theorem d_Mo_turn_23 : decode prog_10_method_48_code 23 = .ok (.aload_n 0, 1) := by decide +kernel
theorem d_Mo_turn_24 : decode prog_10_method_48_code 24 = .ok (.getfield 31, 3) := by decide +kernel
theorem d_Mo_turn_27 : decode prog_10_method_48_code 27 = .ok (.iload_n 1, 1) := by decide +kernel
theorem d_Mo_turn_28 : decode prog_10_method_48_code 28 = .ok (.iaload, 1) := by decide +kernel
theorem d_Mo_turn_29 : decode prog_10_method_48_code 29 = .ok (.iconst (-1), 1) := by decide +kernel
theorem d_Mo_turn_30 : decode prog_10_method_48_code 30 = .ok (.if_icmp .eq 13, 3) := by decide +kernel
theorem d_Mo_turn_33 : decode prog_10_method_48_code 33 = .ok (.aload_n 0, 1) := by decide +kernel
theorem d_Mo_turn_34 : decode prog_10_method_48_code 34 = .ok (.getfield 31, 3) := by decide +kernel
theorem d_Mo_turn_37 : decode prog_10_method_48_code 37 = .ok (.iload_n 1, 1) := by decide +kernel
theorem d_Mo_turn_38 : decode prog_10_method_48_code 38 = .ok (.iaload, 1) := by decide +kernel
theorem d_Mo_turn_39 : decode prog_10_method_48_code 39 = .ok (.iload_n 2, 1) := by decide +kernel
theorem d_Mo_turn_40 : decode prog_10_method_48_code 40 = .ok (.if_icmp .ne 5, 3) := by decide +kernel
theorem d_Mo_turn_43 : decode prog_10_method_48_code 43 = .ok (.iconst (-1), 1) := by decide +kernel
theorem d_Mo_turn_44 : decode prog_10_method_48_code 44 = .ok (.ireturn, 1) := by decide +kernel
theorem d_Mo_turn_45 : decode prog_10_method_48_code 45 = .ok (.aload_n 0, 1) := by decide +kernel
theorem d_Mo_turn_46 : decode prog_10_method_48_code 46 = .ok (.getfield 31, 3) := by decide +kernel
theorem d_Mo_turn_49 : decode prog_10_method_48_code 49 = .ok (.iload_n 1, 1) := by decide +kernel
theorem d_Mo_turn_50 : decode prog_10_method_48_code 50 = .ok (.iaload, 1) := by decide +kernel
theorem d_Mo_turn_51 : decode prog_10_method_48_code 51 = .ok (.istore_n 3, 1) := by decide +kernel
theorem d_Mo_turn_52 : decode prog_10_method_48_code 52 = .ok (.iconst 1, 1) := by decide +kernel
theorem d_Mo_turn_53 : decode prog_10_method_48_code 53 = .ok (.iload_n 1, 1) := by decide +kernel
theorem d_Mo_turn_54 : decode prog_10_method_48_code 54 = .ok (.ishl, 1) := by decide +kernel
theorem d_Mo_turn_55 : decode prog_10_method_48_code 55 = .ok (.istore 4, 2) := by decide +kernel
theorem d_Mo_turn_57 : decode prog_10_method_48_code 57 = .ok (.iconst 1, 1) := by decide +kernel
theorem d_Mo_turn_58 : decode prog_10_method_48_code 58 = .ok (.istore 5, 2) := by decide +kernel
theorem d_Mo_turn_60 : decode prog_10_method_48_code 60 = .ok (.iload 5, 2) := by decide +kernel
theorem d_Mo_turn_62 : decode prog_10_method_48_code 62 = .ok (.ifCond .eq 102, 3) := by decide +kernel
theorem d_Mo_turn_65 : decode prog_10_method_48_code 65 = .ok (.iload 4, 2) := by decide +kernel
theorem d_Mo_turn_67 : decode prog_10_method_48_code 67 = .ok (.istore 6, 2) := by decide +kernel
theorem d_Mo_turn_69 : decode prog_10_method_48_code 69 = .ok (.iconst 0, 1) := by decide +kernel
theorem d_Mo_turn_70 : decode prog_10_method_48_code 70 = .ok (.istore 7, 2) := by decide +kernel
theorem d_Mo_turn_72 : decode prog_10_method_48_code 72 = .ok (.iload 7, 2) := by decide +kernel
theorem d_Mo_turn_74 : decode prog_10_method_48_code 74 = .ok (.aload_n 0, 1) := by decide +kernel
theorem d_Mo_turn_75 : decode prog_10_method_48_code 75 = .ok (.getfield 86, 3) := by decide +kernel
theorem d_Mo_turn_78 : decode prog_10_method_48_code 78 = .ok (.if_icmp .ge 69, 3) := by decide +kernel
theorem d_Mo_turn_81 : decode prog_10_method_48_code 81 = .ok (.aload_n 0, 1) := by decide +kernel
theorem d_Mo_turn_82 : decode prog_10_method_48_code 82 = .ok (.getfield 31, 3) := by decide +kernel
theorem d_Mo_turn_85 : decode prog_10_method_48_code 85 = .ok (.iload 7, 2) := by decide +kernel
theorem d_Mo_turn_87 : decode prog_10_method_48_code 87 = .ok (.iaload, 1) := by decide +kernel
theorem d_Mo_turn_88 : decode prog_10_method_48_code 88 = .ok (.iload_n 2, 1) := by decide +kernel
theorem d_Mo_turn_89 : decode prog_10_method_48_code 89 = .ok (.if_icmp .eq 14, 3) := by decide +kernel
theorem d_Mo_turn_92 : decode prog_10_method_48_code 92 = .ok (.aload_n 0, 1) := by decide +kernel
theorem d_Mo_turn_93 : decode prog_10_method_48_code 93 = .ok (.getfield 31, 3) := by decide +kernel
theorem d_Mo_turn_96 : decode prog_10_method_48_code 96 = .ok (.iload 7, 2) := by decide +kernel
theorem d_Mo_turn_98 : decode prog_10_method_48_code 98 = .ok (.iaload, 1) := by decide +kernel
theorem d_Mo_turn_99 : decode prog_10_method_48_code 99 = .ok (.iload_n 3, 1) := by decide +kernel
theorem d_Mo_turn_100 : decode prog_10_method_48_code 100 = .ok (.if_icmp .ne 7, 3) := by decide +kernel
theorem d_Mo_turn_103 : decode prog_10_method_48_code 103 = .ok (.iconst 1, 1) := by decide +kernel
theorem d_Mo_turn_104 : decode prog_10_method_48_code 104 = .ok (.goto 4, 3) := by decide +kernel
theorem d_Mo_turn_107 : decode prog_10_method_48_code 107 = .ok (.iconst 0, 1) := by decide +kernel
theorem d_Mo_turn_108 : decode prog_10_method_48_code 108 = .ok (.istore 8, 2) := by decide +kernel
theorem d_Mo_turn_110 : decode prog_10_method_48_code 110 = .ok (.iload 4, 2) := by decide +kernel
theorem d_Mo_turn_112 : decode prog_10_method_48_code 112 = .ok (.iload 8, 2) := by decide +kernel
theorem d_Mo_turn_114 : decode prog_10_method_48_code 114 = .ok (.ifCond .eq 23, 3) := by decide +kernel
theorem d_Mo_turn_117 : decode prog_10_method_48_code 117 = .ok (.aload_n 0, 1) := by decide +kernel
theorem d_Mo_turn_118 : decode prog_10_method_48_code 118 = .ok (.getfield 16, 3) := by decide +kernel
theorem d_Mo_turn_121 : decode prog_10_method_48_code 121 = .ok (.iload 7, 2) := by decide +kernel
theorem d_Mo_turn_123 : decode prog_10_method_48_code 123 = .ok (.iaload, 1) := by decide +kernel
theorem d_Mo_turn_124 : decode prog_10_method_48_code 124 = .ok (.iload 4, 2) := by decide +kernel
theorem d_Mo_turn_126 : decode prog_10_method_48_code 126 = .ok (.iand, 1) := by decide +kernel
theorem d_Mo_turn_127 : decode prog_10_method_48_code 127 = .ok (.ifCond .eq 10, 3) := by decide +kernel
theorem d_Mo_turn_130 : decode prog_10_method_48_code 130 = .ok (.iconst 1, 1) := by decide +kernel
theorem d_Mo_turn_131 : decode prog_10_method_48_code 131 = .ok (.iload 7, 2) := by decide +kernel
theorem d_Mo_turn_133 : decode prog_10_method_48_code 133 = .ok (.ishl, 1) := by decide +kernel
theorem d_Mo_turn_134 : decode prog_10_method_48_code 134 = .ok (.goto 4, 3) := by decide +kernel
theorem d_Mo_turn_137 : decode prog_10_method_48_code 137 = .ok (.iconst 0, 1) := by decide +kernel
theorem d_Mo_turn_138 : decode prog_10_method_48_code 138 = .ok (.ior, 1) := by decide +kernel
theorem d_Mo_turn_139 : decode prog_10_method_48_code 139 = .ok (.istore 4, 2) := by decide +kernel
theorem d_Mo_turn_141 : decode prog_10_method_48_code 141 = .ok (.iinc 7 1, 3) := by decide +kernel
theorem d_Mo_turn_144 : decode prog_10_method_48_code 144 = .ok (.goto (-72), 3) := by decide +kernel
theorem d_Mo_turn_147 : decode prog_10_method_48_code 147 = .ok (.iload 4, 2) := by decide +kernel
theorem d_Mo_turn_149 : decode prog_10_method_48_code 149 = .ok (.iload 6, 2) := by decide +kernel
theorem d_Mo_turn_151 : decode prog_10_method_48_code 151 = .ok (.if_icmp .eq 7, 3) := by decide +kernel
theorem d_Mo_turn_154 : decode prog_10_method_48_code 154 = .ok (.iconst 1, 1) := by decide +kernel
theorem d_Mo_turn_155 : decode prog_10_method_48_code 155 = .ok (.goto 4, 3) := by decide +kernel
theorem d_Mo_turn_158 : decode prog_10_method_48_code 158 = .ok (.iconst 0, 1) := by decide +kernel
theorem d_Mo_turn_159 : decode prog_10_method_48_code 159 = .ok (.istore 5, 2) := by decide +kernel
theorem d_Mo_turn_161 : decode prog_10_method_48_code 161 = .ok (.goto (-101), 3) := by decide +kernel
theorem d_Mo_turn_164 : decode prog_10_method_48_code 164 = .ok (.iconst 0, 1) := by decide +kernel
theorem d_Mo_turn_165 : decode prog_10_method_48_code 165 = .ok (.istore 6, 2) := by decide +kernel
theorem d_Mo_turn_167 : decode prog_10_method_48_code 167 = .ok (.iload 6, 2) := by decide +kernel
theorem d_Mo_turn_169 : decode prog_10_method_48_code 169 = .ok (.aload_n 0, 1) := by decide +kernel
theorem d_Mo_turn_170 : decode prog_10_method_48_code 170 = .ok (.getfield 86, 3) := by decide +kernel
theorem d_Mo_turn_173 : decode prog_10_method_48_code 173 = .ok (.if_icmp .ge 43, 3) := by decide +kernel
theorem d_Mo_turn_176 : decode prog_10_method_48_code 176 = .ok (.iload 4, 2) := by decide +kernel
theorem d_Mo_turn_178 : decode prog_10_method_48_code 178 = .ok (.iload 6, 2) := by decide +kernel
theorem d_Mo_turn_180 : decode prog_10_method_48_code 180 = .ok (.ishr, 1) := by decide +kernel
theorem d_Mo_turn_181 : decode prog_10_method_48_code 181 = .ok (.iconst 1, 1) := by decide +kernel
theorem d_Mo_turn_182 : decode prog_10_method_48_code 182 = .ok (.iand, 1) := by decide +kernel
theorem d_Mo_turn_183 : decode prog_10_method_48_code 183 = .ok (.iconst 1, 1) := by decide +kernel
theorem d_Mo_turn_184 : decode prog_10_method_48_code 184 = .ok (.if_icmp .ne 26, 3) := by decide +kernel
theorem d_Mo_turn_187 : decode prog_10_method_48_code 187 = .ok (.aload_n 0, 1) := by decide +kernel
theorem d_Mo_turn_188 : decode prog_10_method_48_code 188 = .ok (.getfield 31, 3) := by decide +kernel
theorem d_Mo_turn_191 : decode prog_10_method_48_code 191 = .ok (.iload 6, 2) := by decide +kernel
theorem d_Mo_turn_193 : decode prog_10_method_48_code 193 = .ok (.aload_n 0, 1) := by decide +kernel
theorem d_Mo_turn_194 : decode prog_10_method_48_code 194 = .ok (.getfield 31, 3) := by decide +kernel
theorem d_Mo_turn_197 : decode prog_10_method_48_code 197 = .ok (.iload 6, 2) := by decide +kernel
theorem d_Mo_turn_199 : decode prog_10_method_48_code 199 = .ok (.iaload, 1) := by decide +kernel
theorem d_Mo_turn_200 : decode prog_10_method_48_code 200 = .ok (.iload_n 2, 1) := by decide +kernel
theorem d_Mo_turn_201 : decode prog_10_method_48_code 201 = .ok (.if_icmp .ne 7, 3) := by decide +kernel
theorem d_Mo_turn_204 : decode prog_10_method_48_code 204 = .ok (.iload_n 3, 1) := by decide +kernel
theorem d_Mo_turn_205 : decode prog_10_method_48_code 205 = .ok (.goto 4, 3) := by decide +kernel
theorem d_Mo_turn_208 : decode prog_10_method_48_code 208 = .ok (.iload_n 2, 1) := by decide +kernel
theorem d_Mo_turn_209 : decode prog_10_method_48_code 209 = .ok (.iastore, 1) := by decide +kernel
theorem d_Mo_turn_210 : decode prog_10_method_48_code 210 = .ok (.iinc 6 1, 3) := by decide +kernel
theorem d_Mo_turn_213 : decode prog_10_method_48_code 213 = .ok (.goto (-46), 3) := by decide +kernel
theorem d_Mo_turn_216 : decode prog_10_method_48_code 216 = .ok (.iload 4, 2) := by decide +kernel
theorem d_Mo_turn_218 : decode prog_10_method_48_code 218 = .ok (.invokestatic 145, 3) := by decide +kernel
theorem d_Mo_turn_221 : decode prog_10_method_48_code 221 = .ok (.ireturn, 1) := by decide +kernel
abbrev wd_Mo_turn (cI cJ cG cZ : ClassId) (a0 a0_from a0_to a0_near a0_lists a0_colours a0_shades a0_tints a0_attempt a0_taken a0_isApart a0_ways a0_next a0_splits a0_powers a0_row a0_many a0_can a0_could a0_arcRow a0_order a0_isOut : Nat) (v0_thrown : Int32) (v0_nodes : Int32) (v0_arcs : Int32) (v0_takenMany : Int32) (v0_leftBits : Int32) (v0_hasPolynomial : Int32) (v0_hasLists : Int32) (w0_near : Nat → Int32) (w0_attempt : Nat → Int32) : va_W := [(a0, .inr (8, [.int v0_thrown, .int v0_nodes, .int v0_arcs, .ref a0_from, .ref a0_to, .ref a0_near, .ref a0_lists, .ref a0_colours, .ref a0_shades, .ref a0_tints, .ref a0_attempt, .int v0_takenMany, .ref a0_taken, .int v0_leftBits, .ref a0_isApart, .ref a0_ways, .ref a0_next, .ref a0_splits, .ref a0_powers, .ref a0_row, .ref a0_many, .int v0_hasPolynomial, .int v0_hasLists, .ref a0_can, .ref a0_could, .ref a0_arcRow, .ref a0_order, .ref a0_isOut])), (a0_near, .inl (cI, 12, .inl w0_near)), (a0_attempt, .inl (cI, 12, .inl w0_attempt))]
abbrev us_Mo_turn : List Cond := .code y_Mo_turn prog_10_method_48_code 9 (some .int) :: gtbl
abbrev rm_Mo_turn : Room := { frames := 1, cells := 0, slots := 0, locals := 22 }
def m_Mo_turn (F : Nat) (v0_thrown : Int32) (v0_nodes : Int32) (v0_arcs : Int32) (v0_takenMany : Int32) (v0_leftBits : Int32) (v0_hasPolynomial : Int32) (v0_hasLists : Int32) (w0_near : Nat → Int32) (w0_attempt : Nat → Int32) (p1 : Int32) (p2 : Int32) : Option (Int32 × Int32 × (Nat → Int32)) :=
  gM (m_Mo_isNode F 0 v0_nodes v0_arcs v0_takenMany v0_leftBits v0_hasPolynomial v0_hasLists p1) (fun q_1 =>
  if q_1 = 0 then (
    some ((-1), 0, w0_attempt)
  ) else (
    if p2 < 0 then (
      some ((-1), 0, w0_attempt)
    ) else (
      if (11 : Int32) < p2 then (
        some ((-1), 0, w0_attempt)
      ) else (
        gC (inb p1 12) (
        if (w0_attempt p1.toNatClampNeg) = ((-1) : Int32) then (
          some ((-1), 0, w0_attempt)
        ) else (
          gC (inb p1 12) (
          if (w0_attempt p1.toNatClampNeg) = p2 then (
            some ((-1), 0, w0_attempt)
          ) else (
            gC (inb p1 12) (
            gB (w0_attempt p1.toNatClampNeg) (fun x3_13 =>
            gB ((1 : Int32) <<< (p1 &&& 31)) (fun x4_14 =>
            gL (fun (k_60 : (Int32 × Int32) → Option (Int32 × Int32 × (Nat → Int32))) (z_60 : Int32 × Int32) => match z_60 with
            | (x4_15, x5_16) =>
            if x5_16 = 0 then (
              gL (fun (k_167 : (Int32 × (Nat → Int32)) → Option (Int32 × Int32 × (Nat → Int32))) (z_167 : Int32 × (Nat → Int32)) => match z_167 with
              | (x6_18, w0_attempt_19) =>
              if v0_nodes ≤ x6_18 then (
                gM (m_Mo_count F x4_15) (fun q_21 =>
                some (q_21, 0, w0_attempt_19))
              ) else (
                if ((x4_15 >>> (x6_18 &&& 31)) &&& 1) = (1 : Int32) then (
                  gC (inb x6_18 12) (
                  gB (α := Int32 → Option (Int32 × Int32 × (Nat → Int32))) (fun s_27 =>
                    gC (inb x6_18 12) (
                    gB (x6_18 + 1) (fun x6_29 =>
                    k_167 (x6_29, upd w0_attempt_19 x6_18.toNatClampNeg s_27)))
                  ) (fun J_209 =>
                  if (w0_attempt_19 x6_18.toNatClampNeg) = p2 then (
                    J_209 x3_13
                  ) else (
                    J_209 p2
                  )
                  ))
                ) else (
                  gB (x6_18 + 1) (fun x6_25 =>
                  k_167 (x6_25, w0_attempt_19))
                )
              )
              ) F (0, w0_attempt)
            ) else (
              gL (fun (k_72 : (Int32 × Int32) → Option (Int32 × Int32 × (Nat → Int32))) (z_72 : Int32 × Int32) => match z_72 with
              | (x4_31, x7_32) =>
              if v0_nodes ≤ x7_32 then (
                if x4_31 = x4_15 then (
                  k_60 (x4_31, 0)
                ) else (
                  k_60 (x4_31, 1)
                )
              ) else (
                gC (inb x7_32 12) (
                gB (α := Int32 → Option (Int32 × Int32 × (Nat → Int32))) (fun s_36 =>
                  if s_36 = 0 then (
                    gB (x4_31 ||| 0) (fun x4_38 =>
                    gB (x7_32 + 1) (fun x7_39 =>
                    k_72 (x4_38, x7_39)))
                  ) else (
                    gC (inb x7_32 12) (
                    if ((w0_near x7_32.toNatClampNeg) &&& x4_31) = 0 then (
                      gB (x4_31 ||| 0) (fun x4_42 =>
                      gB (x7_32 + 1) (fun x7_43 =>
                      k_72 (x4_42, x7_43)))
                    ) else (
                      gB (x4_31 ||| ((1 : Int32) <<< (x7_32 &&& 31))) (fun x4_44 =>
                      gB (x7_32 + 1) (fun x7_45 =>
                      k_72 (x4_44, x7_45)))
                    ))
                  )
                ) (fun J_108 =>
                gB (α := Option (Int32 × Int32 × (Nat → Int32))) (
                  J_108 1
                ) (fun J_103 =>
                if (w0_attempt x7_32.toNatClampNeg) = p2 then (
                  J_103
                ) else (
                  gC (inb x7_32 12) (
                  if (w0_attempt x7_32.toNatClampNeg) = x3_13 then (
                    J_103
                  ) else (
                    J_108 0
                  ))
                )
                )
                ))
              )
              ) F (x4_15, 0)
            )
            ) F (x4_14, 1))))
          ))
        ))
      )
    )
  ))
set_option maxHeartbeats 4000000 in
set_option maxRecDepth 100000 in
theorem c_Mo_turn (l : Launch) (dC : Nat → ClassId) (dI : Nat → Nat → Nat) (cI cJ cG cZ : ClassId) (a0 a0_from a0_to a0_near a0_lists a0_colours a0_shades a0_tints a0_attempt a0_taken a0_isApart a0_ways a0_next a0_splits a0_powers a0_row a0_many a0_can a0_could a0_arcRow a0_order a0_isOut : Nat) (sz : Nat) (F : Nat) (v0_thrown : Int32) (v0_nodes : Int32) (v0_arcs : Int32) (v0_takenMany : Int32) (v0_leftBits : Int32) (v0_hasPolynomial : Int32) (v0_hasLists : Int32) (w0_near : Nat → Int32) (w0_attempt : Nat → Int32) (p1 : Int32) (p2 : Int32) (ret : Int32) (o_v0_thrown : Int32) (o_w0_attempt : Nat → Int32) (hm : m_Mo_turn F v0_thrown v0_nodes v0_arcs v0_takenMany v0_leftBits v0_hasPolynomial v0_hasLists w0_near w0_attempt p1 p2 = some (ret, o_v0_thrown, o_w0_attempt)) : Met l y_Mo_turn us_Mo_turn rm_Mo_turn (PcS (dC, dI) (tyL cI cJ cG cZ) [.ref a0, .int p1, .int p2] sz (wd_Mo_turn cI cJ cG cZ a0 a0_from a0_to a0_near a0_lists a0_colours a0_shades a0_tints a0_attempt a0_taken a0_isApart a0_ways a0_next a0_splits a0_powers a0_row a0_many a0_can a0_could a0_arcRow a0_order a0_isOut v0_thrown v0_nodes v0_arcs v0_takenMany v0_leftBits v0_hasPolynomial v0_hasLists w0_near w0_attempt)) (va_Qi (fun (r : Int32) (_ : Unit) => ret = r) (fun _ t => PoS (dC, dI) (tyL cI cJ cG cZ) (wd_Mo_turn cI cJ cG cZ a0 a0_from a0_to a0_near a0_lists a0_colours a0_shades a0_tints a0_attempt a0_taken a0_isApart a0_ways a0_next a0_splits a0_powers a0_row a0_many a0_can a0_could a0_arcRow a0_order a0_isOut o_v0_thrown v0_nodes v0_arcs v0_takenMany v0_leftBits v0_hasPolynomial v0_hasLists w0_near o_w0_attempt) (va_A (wd_Mo_turn cI cJ cG cZ a0 a0_from a0_to a0_near a0_lists a0_colours a0_shades a0_tints a0_attempt a0_taken a0_isApart a0_ways a0_next a0_splits a0_powers a0_row a0_many a0_can a0_could a0_arcRow a0_order a0_isOut v0_thrown v0_nodes v0_arcs v0_takenMany v0_leftBits v0_hasPolynomial v0_hasLists w0_near w0_attempt) sz) t) (va_A (wd_Mo_turn cI cJ cG cZ a0 a0_from a0_to a0_near a0_lists a0_colours a0_shades a0_tints a0_attempt a0_taken a0_isApart a0_ways a0_next a0_splits a0_powers a0_row a0_many a0_can a0_could a0_arcRow a0_order a0_isOut v0_thrown v0_nodes v0_arcs v0_takenMany v0_leftBits v0_hasPolynomial v0_hasLists w0_near w0_attempt) sz)) 0 0 (va_A (wd_Mo_turn cI cJ cG cZ a0 a0_from a0_to a0_near a0_lists a0_colours a0_shades a0_tints a0_attempt a0_taken a0_isApart a0_ways a0_next a0_splits a0_powers a0_row a0_many a0_can a0_could a0_arcRow a0_order a0_isOut v0_thrown v0_nodes v0_arcs v0_takenMany v0_leftBits v0_hasPolynomial v0_hasLists w0_near w0_attempt) sz) := by
  refine Met.ofW (cc := prog_10_method_48_code) (maxL := 9) (ret := (some .int)) (by decide) rfl ?_
  intro p e s m args below meth c s₁ B hml hv
  obtain ⟨rfl, hsz, hP, hK, hD0, hNw⟩ := hv
  have hx := B.exec
  have hb := B.bytes
  have hr := B.returns
  have htt : ∀ w ∈ gtbl, w.before _ s = true := fun w h => atoms_spec (ws := us_Mo_turn) B.pre w (List.mem_cons_of_mem _ h)
  have hown : s.vm.findClass R_Mo = some m.cls := findClass_of_methodNamed B.named
  have hlocks := B.notSynchronized
  subst hsz
  have hD := hD0.self (sz := s.heap.size)
  generalize hAe : va_A (wd_Mo_turn cI cJ cG cZ a0 a0_from a0_to a0_near a0_lists a0_colours a0_shades a0_tints a0_attempt a0_taken a0_isApart a0_ways a0_next a0_splits a0_powers a0_row a0_many a0_can a0_could a0_arcRow a0_order a0_isOut v0_thrown v0_nodes v0_arcs v0_takenMany v0_leftBits v0_hasPolynomial v0_hasLists w0_near w0_attempt) s.heap.size = A at hD ⊢
  have hA : ∀ q : Nat, s.heap.size ≤ q → A q := fun q h => by rw [← hAe]; exact Or.inr h
  clear hAe hD0
  have hS : va_S A s.heap s.heap [] := va_S.rf
  have hl := lv_entry ([.ref a0, .int p1, .int p2]) (n := 9) (Nat.le_of_ble_eq_true rfl)
  rw [lg_entry_eq]
  generalize (lg_sl ([.ref a0, .int p1, .int p2]) ++ List.replicate (9 - (lg_sl ([.ref a0, .int p1, .int p2])).length) Slot.unset).toArray = ls at hl ⊢
  have hl : lv_has ls 9 [(0, .ref a0), (1, .int p1), (2, .int p2)] := hl
  generalize hH : s.heap = H at hP ⊢
  have hS : va_S A s.heap H [] := hH ▸ hS
  generalize hLo : ([] : List Loc) = locs at hS ⊢
  clear hH hLo
  unfold m_Mo_turn at hm
  refine lv_aload_n hx hb d_Mo_turn_0 rfl (lv_at hl 0 rfl) ?_
  refine lv_iconst (v := 0) hx hb d_Mo_turn_1 (by decide) ?_
  refine va_put (D := (dC, dI)) (ci := 8) (v := .int 0) (ty := .int) (C := R_Mo) (T := T_Mo) (N := 28) hx hb htt hin_Mo ty_Mo tyok_Mo nm_Mo hown hK hP hD hS 0 rfl rfl 0 (by decide) (htt _ kt_769) (fun _ h9 => h9) rfl (by decide +kernel) rfl rfl (Nat.le_of_ble_eq_true rfl) d_Mo_turn_2 (fun H locs hP hD hS => ?_)
  have hP : va_P (dC, dI) vwCl (wd_Mo_turn cI cJ cG cZ a0 a0_from a0_to a0_near a0_lists a0_colours a0_shades a0_tints a0_attempt a0_taken a0_isApart a0_ways a0_next a0_splits a0_powers a0_row a0_many a0_can a0_could a0_arcRow a0_order a0_isOut 0 v0_nodes v0_arcs v0_takenMany v0_leftBits v0_hasPolynomial v0_hasLists w0_near w0_attempt) H := hP
  have hD : va_D A (wd_Mo_turn cI cJ cG cZ a0 a0_from a0_to a0_near a0_lists a0_colours a0_shades a0_tints a0_attempt a0_taken a0_isApart a0_ways a0_next a0_splits a0_powers a0_row a0_many a0_can a0_could a0_arcRow a0_order a0_isOut 0 v0_nodes v0_arcs v0_takenMany v0_leftBits v0_hasPolynomial v0_hasLists w0_near w0_attempt) := hD
  refine lv_aload_n hx hb d_Mo_turn_5 rfl (lv_at hl 0 rfl) ?_
  refine lv_iload_n hx hb d_Mo_turn_6 rfl (lv_at hl 1 rfl) ?_
  obtain ⟨q_1, hc_2, hm⟩ := gM_e hm
  have hPc : va_P (dC, dI) vwCl (wd_Mo_isNode cI cJ cG cZ a0 a0_from a0_to a0_near a0_lists a0_colours a0_shades a0_tints a0_attempt a0_taken a0_isApart a0_ways a0_next a0_splits a0_powers a0_row a0_many a0_can a0_could a0_arcRow a0_order a0_isOut 0 v0_nodes v0_arcs v0_takenMany v0_leftBits v0_hasPolynomial v0_hasLists) H := hP.sub [0] rfl
  have hDc : va_D A (wd_Mo_isNode cI cJ cG cZ a0 a0_from a0_to a0_near a0_lists a0_colours a0_shades a0_tints a0_attempt a0_taken a0_isApart a0_ways a0_next a0_splits a0_powers a0_row a0_many a0_can a0_could a0_arcRow a0_order a0_isOut 0 v0_nodes v0_arcs v0_takenMany v0_leftBits v0_hasPolynomial v0_hasLists) := hD.sub [0] (by decide) rfl
  have hFc : ∀ q, va_A (wd_Mo_isNode cI cJ cG cZ a0 a0_from a0_to a0_near a0_lists a0_colours a0_shades a0_tints a0_attempt a0_taken a0_isApart a0_ways a0_next a0_splits a0_powers a0_row a0_many a0_can a0_could a0_arcRow a0_order a0_isOut 0 v0_nodes v0_arcs v0_takenMany v0_leftBits v0_hasPolynomial v0_hasLists) H.size q → A q := va_free hD hS hA [0] rfl
  refine va_calli (va_runV (As := [.int p1]) (rest := []) ⟨hx, hb, hml, hown, htt⟩ (c_Mo_isNode l dC dI cI cJ cG cZ a0 a0_from a0_to a0_near a0_lists a0_colours a0_shades a0_tints a0_attempt a0_taken a0_isApart a0_ways a0_next a0_splits a0_powers a0_row a0_many a0_can a0_could a0_arcRow a0_order a0_isOut H.size F 0 v0_nodes v0_arcs v0_takenMany v0_leftBits v0_hasPolynomial v0_hasLists p1 q_1 hc_2) (cwV 1 htt (gdV kt_868 kt_870 kp_43 kt_10 kt_871) rfl rfl rfl (by decide +kernel) ⟨(Nat.le_of_ble_eq_true rfl), (Nat.le_of_ble_eq_true rfl)⟩) ⟨PcS_blind, va_recv hK hPc (ci := 8) (q0 := 0) rfl rfl, PcS_in hPc hK hDc hNw⟩ rfl rfl hl.1 rfl (lv_room (Nat.le_of_ble_eq_true rfl)) d_Mo_turn_7 ⟨Nat.zero_le _, Nat.zero_le _⟩) hS (fun q _ h => hFc q h) hFc (fun r_3 u t H1 locs ht hvm hw hB hz1 hk1 hS => ?_)
  obtain ⟨hP1, hK1, hD1⟩ := hB
  rw [ht] at hP1
  obtain ⟨hw, hz_4⟩ := hw
  subst hw
  obtain ⟨hP, hD⟩ := va_join (wr := [(a0_near, .inl (cI, 12, .inl w0_near)), (a0_attempt, .inl (cI, 12, .inl w0_attempt))]) (w1 := (wd_Mo_isNode cI cJ cG cZ a0 a0_from a0_to a0_near a0_lists a0_colours a0_shades a0_tints a0_attempt a0_taken a0_isApart a0_ways a0_next a0_splits a0_powers a0_row a0_many a0_can a0_could a0_arcRow a0_order a0_isOut 0 v0_nodes v0_arcs v0_takenMany v0_leftBits v0_hasPolynomial v0_hasLists)) hP hD [0] [1, 2] rfl rfl (by decide) (by decide) hk1 hFc hP1 hD1
  have hP : va_P (dC, dI) vwCl (wd_Mo_turn cI cJ cG cZ a0 a0_from a0_to a0_near a0_lists a0_colours a0_shades a0_tints a0_attempt a0_taken a0_isApart a0_ways a0_next a0_splits a0_powers a0_row a0_many a0_can a0_could a0_arcRow a0_order a0_isOut 0 v0_nodes v0_arcs v0_takenMany v0_leftBits v0_hasPolynomial v0_hasLists w0_near w0_attempt) H1 := hP.sub [2, 0, 1] rfl
  have hD : va_D A (wd_Mo_turn cI cJ cG cZ a0 a0_from a0_to a0_near a0_lists a0_colours a0_shades a0_tints a0_attempt a0_taken a0_isApart a0_ways a0_next a0_splits a0_powers a0_row a0_many a0_can a0_could a0_arcRow a0_order a0_isOut 0 v0_nodes v0_arcs v0_takenMany v0_leftBits v0_hasPolynomial v0_hasLists w0_near w0_attempt) := hD.sub [2, 0, 1] (by decide) rfl
  clear hP1 hK1 hD1 hk1 hPc hDc hFc ht hvm hz1
  generalize H1 = H at hP hS ⊢
  refine lv_if_eq (tgt := 43) hx hb d_Mo_turn_10 (by decide) (fun c_5 => ?_) (fun c_5 => ?_)
  · have hm := ite_t c_5 hm
    refine lv_iconst (v := (-1)) hx hb d_Mo_turn_43 (by decide) ?_
    cases hm
    exact W.iret hx hb hr (fun t ht hW => ⟨⟨_, (), rfl, rfl, by rw [ht]; exact hP, va_K.moved hW.alike hK, hD⟩, hS.F ht⟩) hS.2.2 d_Mo_turn_44
  · have hm := ite_f c_5 hm
    refine lv_iload_n hx hb d_Mo_turn_13 rfl (lv_at hl 2 rfl) ?_
    refine lv_if_lt (tgt := 43) hx hb d_Mo_turn_14 (by decide) (fun c_6 => ?_) (fun c_6 => ?_)
    · have hm := ite_t c_6 hm
      refine lv_iconst (v := (-1)) hx hb d_Mo_turn_43 (by decide) ?_
      cases hm
      exact W.iret hx hb hr (fun t ht hW => ⟨⟨_, (), rfl, rfl, by rw [ht]; exact hP, va_K.moved hW.alike hK, hD⟩, hS.F ht⟩) hS.2.2 d_Mo_turn_44
    · have hm := ite_f c_6 hm
      refine lv_iload_n hx hb d_Mo_turn_17 rfl (lv_at hl 2 rfl) ?_
      refine lv_bipush (v := 11) hx hb d_Mo_turn_18 (by decide) ?_
      refine lv_icmp_gt (tgt := 43) hx hb d_Mo_turn_20 (by decide) (fun c_7 => ?_) (fun c_7 => ?_)
      · have hm := ite_t c_7 hm
        refine lv_iconst (v := (-1)) hx hb d_Mo_turn_43 (by decide) ?_
        cases hm
        exact W.iret hx hb hr (fun t ht hW => ⟨⟨_, (), rfl, rfl, by rw [ht]; exact hP, va_K.moved hW.alike hK, hD⟩, hS.F ht⟩) hS.2.2 d_Mo_turn_44
      · have hm := ite_f c_7 hm
        refine lv_aload_n hx hb d_Mo_turn_23 rfl (lv_at hl 0 rfl) ?_
        refine va_get (D := (dC, dI)) (ci := 8) (v := .ref a0_attempt) (C := R_Mo) (T := T_Mo) (N := 28) hx hb htt hin_Mo hown hK hP 0 rfl rfl 10 (by decide) (htt _ kt_779) (fun _ h9 => h9) rfl d_Mo_turn_24 ?_
        refine lv_iload_n hx hb d_Mo_turn_27 rfl (lv_at hl 1 rfl) ?_
        obtain ⟨hi_8, hm⟩ := gC_e hm
        refine va_iald hx hb hK hP 2 0 rfl rfl (inb_vp hi_8) d_Mo_turn_28 ?_
        refine lv_iconst (v := (-1)) hx hb d_Mo_turn_29 (by decide) ?_
        refine lv_icmp_eq (tgt := 43) hx hb d_Mo_turn_30 (by decide) (fun c_9 => ?_) (fun c_9 => ?_)
        · have hm := ite_t c_9 hm
          refine lv_iconst (v := (-1)) hx hb d_Mo_turn_43 (by decide) ?_
          cases hm
          exact W.iret hx hb hr (fun t ht hW => ⟨⟨_, (), rfl, rfl, by rw [ht]; exact hP, va_K.moved hW.alike hK, hD⟩, hS.F ht⟩) hS.2.2 d_Mo_turn_44
        · have hm := ite_f c_9 hm
          refine lv_aload_n hx hb d_Mo_turn_33 rfl (lv_at hl 0 rfl) ?_
          refine va_get (D := (dC, dI)) (ci := 8) (v := .ref a0_attempt) (C := R_Mo) (T := T_Mo) (N := 28) hx hb htt hin_Mo hown hK hP 0 rfl rfl 10 (by decide) (htt _ kt_779) (fun _ h9 => h9) rfl d_Mo_turn_34 ?_
          refine lv_iload_n hx hb d_Mo_turn_37 rfl (lv_at hl 1 rfl) ?_
          obtain ⟨hi_10, hm⟩ := gC_e hm
          refine va_iald hx hb hK hP 2 0 rfl rfl (inb_vp hi_10) d_Mo_turn_38 ?_
          refine lv_iload_n hx hb d_Mo_turn_39 rfl (lv_at hl 2 rfl) ?_
          refine lv_icmp_ne (tgt := 45) hx hb d_Mo_turn_40 (by decide) (fun c_11 => ?_) (fun c_11 => ?_)
          · have hm := ite_f c_11 hm
            refine lv_aload_n hx hb d_Mo_turn_45 rfl (lv_at hl 0 rfl) ?_
            refine va_get (D := (dC, dI)) (ci := 8) (v := .ref a0_attempt) (C := R_Mo) (T := T_Mo) (N := 28) hx hb htt hin_Mo hown hK hP 0 rfl rfl 10 (by decide) (htt _ kt_779) (fun _ h9 => h9) rfl d_Mo_turn_46 ?_
            refine lv_iload_n hx hb d_Mo_turn_49 rfl (lv_at hl 1 rfl) ?_
            obtain ⟨hi_12, hm⟩ := gC_e hm
            refine va_iald hx hb hK hP 2 0 rfl rfl (inb_vp hi_12) d_Mo_turn_50 ?_
            refine lv_topi (fun x3_13 ex3_13 => ?_)
            have hm := gB_at ex3_13 hm
            refine lv_istore_n (lv' := [(3, .int x3_13), (0, .ref a0), (1, .int p1), (2, .int p2)]) hx hb d_Mo_turn_51 rfl hl (by decide) rfl (fun ls hl => ?_)
            refine lv_iconst (v := 1) hx hb d_Mo_turn_52 (by decide) ?_
            refine lv_iload_n hx hb d_Mo_turn_53 rfl (lv_at hl 2 rfl) ?_
            refine lv_ishl hx hb d_Mo_turn_54 ?_
            refine lv_topi (fun x4_14 ex4_14 => ?_)
            have hm := gB_at ex4_14 hm
            refine lv_istore (lv' := [(4, .int x4_14), (3, .int x3_13), (0, .ref a0), (1, .int p1), (2, .int p2)]) hx hb d_Mo_turn_55 hl (by decide) rfl (fun ls hl => ?_)
            refine lv_iconst (v := 1) hx hb d_Mo_turn_57 (by decide) ?_
            refine lv_istore (lv' := [(5, .int 1), (4, .int x4_14), (3, .int x3_13), (0, .ref a0), (1, .int p1), (2, .int p2)]) hx hb d_Mo_turn_58 hl (by decide) rfl (fun ls hl => ?_)
            refine gL_e (P := (fun (z_60 : Int32 × Int32) => ∀ (x4_15 : Int32), ∀ (x5_16 : Int32), z_60 = (x4_15, x5_16) → ∀ (ls : Array Slot) (H : Heap) (locs : List Loc), lv_has ls 9 [(0, .ref a0), (2, .int p2), (3, .int x3_13), (4, .int x4_15), (5, .int x5_16)] → va_P (dC, dI) vwCl (wd_Mo_turn cI cJ cG cZ a0 a0_from a0_to a0_near a0_lists a0_colours a0_shades a0_tints a0_attempt a0_taken a0_isApart a0_ways a0_next a0_splits a0_powers a0_row a0_many a0_can a0_could a0_arcRow a0_order a0_isOut 0 v0_nodes v0_arcs v0_takenMany v0_leftBits v0_hasPolynomial v0_hasLists w0_near w0_attempt) H → va_D A (wd_Mo_turn cI cJ cG cZ a0 a0_from a0_to a0_near a0_lists a0_colours a0_shades a0_tints a0_attempt a0_taken a0_isApart a0_ways a0_next a0_splits a0_powers a0_row a0_many a0_can a0_could a0_arcRow a0_order a0_isOut 0 v0_nodes v0_arcs v0_takenMany v0_leftBits v0_hasPolynomial v0_hasLists w0_near w0_attempt) → va_S A s.heap H locs → W p l e (headSpec us_Mo_turn rm_Mo_turn).room s m ([.ref a0, .int p1, .int p2] : List Value).toArray below meth c H locs 0 0 (MQ below (va_Qi (fun (r : Int32) (_ : Unit) => ret = r) (fun _ t => PoS (dC, dI) (tyL cI cJ cG cZ) (wd_Mo_turn cI cJ cG cZ a0 a0_from a0_to a0_near a0_lists a0_colours a0_shades a0_tints a0_attempt a0_taken a0_isApart a0_ways a0_next a0_splits a0_powers a0_row a0_many a0_can a0_could a0_arcRow a0_order a0_isOut o_v0_thrown v0_nodes v0_arcs v0_takenMany v0_leftBits v0_hasPolynomial v0_hasLists w0_near o_w0_attempt) A t) A) ([.ref a0, .int p1, .int p2] : List Value).toArray s 0 0 A) (F0 m 60 ls []))) hm (fun k_60 z_60 ih_60 hm => ?_) _ _ rfl ls H locs (lv_sub hl [3, 5, 2, 1, 0] rfl) hP hD hS
            intro x4_15 x5_16 hz ls H locs hl hP hD hS
            subst hz
            dsimp only at hm
            refine lv_iload hx hb d_Mo_turn_60 (lv_at hl 4 rfl) ?_
            refine lv_if_eq (tgt := 164) hx hb d_Mo_turn_62 (by decide) (fun c_17 => ?_) (fun c_17 => ?_)
            · have hm := ite_t c_17 hm
              refine lv_iconst (v := 0) hx hb d_Mo_turn_164 (by decide) ?_
              refine lv_istore (lv' := [(6, .int 0), (0, .ref a0), (2, .int p2), (3, .int x3_13), (4, .int x4_15), (5, .int x5_16)]) hx hb d_Mo_turn_165 hl (by decide) rfl (fun ls hl => ?_)
              refine gL_e (P := (fun (z_167 : Int32 × (Nat → Int32)) => ∀ (x6_18 : Int32), ∀ (w0_attempt_19 : Nat → Int32), z_167 = (x6_18, w0_attempt_19) → ∀ (ls : Array Slot) (H : Heap) (locs : List Loc), lv_has ls 9 [(0, .ref a0), (2, .int p2), (3, .int x3_13), (4, .int x4_15), (6, .int x6_18)] → va_P (dC, dI) vwCl (wd_Mo_turn cI cJ cG cZ a0 a0_from a0_to a0_near a0_lists a0_colours a0_shades a0_tints a0_attempt a0_taken a0_isApart a0_ways a0_next a0_splits a0_powers a0_row a0_many a0_can a0_could a0_arcRow a0_order a0_isOut 0 v0_nodes v0_arcs v0_takenMany v0_leftBits v0_hasPolynomial v0_hasLists w0_near w0_attempt_19) H → va_D A (wd_Mo_turn cI cJ cG cZ a0 a0_from a0_to a0_near a0_lists a0_colours a0_shades a0_tints a0_attempt a0_taken a0_isApart a0_ways a0_next a0_splits a0_powers a0_row a0_many a0_can a0_could a0_arcRow a0_order a0_isOut 0 v0_nodes v0_arcs v0_takenMany v0_leftBits v0_hasPolynomial v0_hasLists w0_near w0_attempt_19) → va_S A s.heap H locs → W p l e (headSpec us_Mo_turn rm_Mo_turn).room s m ([.ref a0, .int p1, .int p2] : List Value).toArray below meth c H locs 0 0 (MQ below (va_Qi (fun (r : Int32) (_ : Unit) => ret = r) (fun _ t => PoS (dC, dI) (tyL cI cJ cG cZ) (wd_Mo_turn cI cJ cG cZ a0 a0_from a0_to a0_near a0_lists a0_colours a0_shades a0_tints a0_attempt a0_taken a0_isApart a0_ways a0_next a0_splits a0_powers a0_row a0_many a0_can a0_could a0_arcRow a0_order a0_isOut o_v0_thrown v0_nodes v0_arcs v0_takenMany v0_leftBits v0_hasPolynomial v0_hasLists w0_near o_w0_attempt) A t) A) ([.ref a0, .int p1, .int p2] : List Value).toArray s 0 0 A) (F0 m 167 ls []))) hm (fun k_167 z_167 ih_167 hm => ?_) _ _ rfl ls H locs (lv_sub hl [1, 2, 3, 4, 0] rfl) hP hD hS
              intro x6_18 w0_attempt_19 hz ls H locs hl hP hD hS
              subst hz
              dsimp only at hm
              refine lv_iload hx hb d_Mo_turn_167 (lv_at hl 4 rfl) ?_
              refine lv_aload_n hx hb d_Mo_turn_169 rfl (lv_at hl 0 rfl) ?_
              refine va_get (D := (dC, dI)) (ci := 8) (v := .int v0_nodes) (C := R_Mo) (T := T_Mo) (N := 28) hx hb htt hin_Mo hown hK hP 0 rfl rfl 1 (by decide) (htt _ kt_770) (fun _ h9 => h9) rfl d_Mo_turn_170 ?_
              refine lv_icmp_ge (tgt := 216) hx hb d_Mo_turn_173 (by decide) (fun c_20 => ?_) (fun c_20 => ?_)
              · have hm := ite_t c_20 hm
                refine lv_iload hx hb d_Mo_turn_216 (lv_at hl 3 rfl) ?_
                obtain ⟨q_21, hc_22, hm⟩ := gM_e hm
                have hPc : va_P (dC, dI) vwCl (wd_Mo_count cI cJ cG cZ) H := hP.sub [] rfl
                have hDc : va_D A (wd_Mo_count cI cJ cG cZ) := hD.sub [] (by decide) rfl
                have hFc : ∀ q, va_A (wd_Mo_count cI cJ cG cZ) H.size q → A q := va_free hD hS hA [] rfl
                refine va_calli (va_runS (As := [.int x4_15]) (rest := []) ⟨hx, hb, hml, hown, htt⟩ (c_Mo_count l dC dI cI cJ cG cZ H.size F x4_15 q_21 hc_22) (cwS 1 htt (gdS kt_972 kt_973 kt_10 kt_974) rfl rfl rfl (by decide +kernel) ⟨(Nat.le_of_ble_eq_true rfl), (Nat.le_of_ble_eq_true rfl)⟩) ⟨PcS_blind, PcS_in hPc hK hDc hNw⟩ rfl rfl hl.1 rfl (lv_room (Nat.le_of_ble_eq_true rfl)) d_Mo_turn_218 ⟨Nat.zero_le _, Nat.zero_le _⟩) hS (fun q _ h => hFc q h) hFc (fun r_23 u t H1 locs ht hvm hw hB hz1 hk1 hS => ?_)
                obtain ⟨hP1, hK1, hD1⟩ := hB
                rw [ht] at hP1
                subst hw
                obtain ⟨hP, hD⟩ := va_join (wr := [(a0, .inr (8, [.int 0, .int v0_nodes, .int v0_arcs, .ref a0_from, .ref a0_to, .ref a0_near, .ref a0_lists, .ref a0_colours, .ref a0_shades, .ref a0_tints, .ref a0_attempt, .int v0_takenMany, .ref a0_taken, .int v0_leftBits, .ref a0_isApart, .ref a0_ways, .ref a0_next, .ref a0_splits, .ref a0_powers, .ref a0_row, .ref a0_many, .int v0_hasPolynomial, .int v0_hasLists, .ref a0_can, .ref a0_could, .ref a0_arcRow, .ref a0_order, .ref a0_isOut])), (a0_near, .inl (cI, 12, .inl w0_near)), (a0_attempt, .inl (cI, 12, .inl w0_attempt_19))]) (w1 := (wd_Mo_count cI cJ cG cZ)) hP hD [] [0, 1, 2] rfl rfl (by decide) (by decide) hk1 hFc hP1 hD1
                have hP : va_P (dC, dI) vwCl (wd_Mo_turn cI cJ cG cZ a0 a0_from a0_to a0_near a0_lists a0_colours a0_shades a0_tints a0_attempt a0_taken a0_isApart a0_ways a0_next a0_splits a0_powers a0_row a0_many a0_can a0_could a0_arcRow a0_order a0_isOut 0 v0_nodes v0_arcs v0_takenMany v0_leftBits v0_hasPolynomial v0_hasLists w0_near w0_attempt_19) H1 := hP.sub [0, 1, 2] rfl
                have hD : va_D A (wd_Mo_turn cI cJ cG cZ a0 a0_from a0_to a0_near a0_lists a0_colours a0_shades a0_tints a0_attempt a0_taken a0_isApart a0_ways a0_next a0_splits a0_powers a0_row a0_many a0_can a0_could a0_arcRow a0_order a0_isOut 0 v0_nodes v0_arcs v0_takenMany v0_leftBits v0_hasPolynomial v0_hasLists w0_near w0_attempt_19) := hD.sub [0, 1, 2] (by decide) rfl
                clear hP1 hK1 hD1 hk1 hPc hDc hFc ht hvm hz1
                generalize H1 = H at hP hS ⊢
                cases hm
                exact W.iret hx hb hr (fun t ht hW => ⟨⟨_, (), rfl, rfl, by rw [ht]; exact hP, va_K.moved hW.alike hK, hD⟩, hS.F ht⟩) hS.2.2 d_Mo_turn_221
              · have hm := ite_f c_20 hm
                refine lv_iload hx hb d_Mo_turn_176 (lv_at hl 3 rfl) ?_
                refine lv_iload hx hb d_Mo_turn_178 (lv_at hl 4 rfl) ?_
                refine lv_ishr hx hb d_Mo_turn_180 ?_
                refine lv_iconst (v := 1) hx hb d_Mo_turn_181 (by decide) ?_
                refine lv_iand hx hb d_Mo_turn_182 ?_
                refine lv_iconst (v := 1) hx hb d_Mo_turn_183 (by decide) ?_
                refine lv_icmp_ne (tgt := 210) hx hb d_Mo_turn_184 (by decide) (fun c_24 => ?_) (fun c_24 => ?_)
                · have hm := ite_f c_24 hm
                  obtain ⟨x6_25, ex6_25⟩ : ∃ y : Int32, y = x6_18 + 1 := ⟨_, rfl⟩
                  have hm := gB_at ex6_25 hm
                  refine lv_iinc (v := x6_25) (lv' := [(6, .int x6_25), (0, .ref a0), (2, .int p2), (3, .int x3_13), (4, .int x4_15)]) hx hb d_Mo_turn_210 hl (k := 4) rfl (by rw [ex6_25]; rfl) (by decide) rfl (fun ls hl => ?_)
                  refine lv_goto (tgt := 167) hx hb d_Mo_turn_213 (by decide) ?_
                  exact ih_167 _ hm _ _ rfl ls H locs (lv_sub hl [1, 2, 3, 4, 0] rfl) hP hD hS
                · have hm := ite_t c_24 hm
                  refine lv_aload_n hx hb d_Mo_turn_187 rfl (lv_at hl 0 rfl) ?_
                  refine va_get (D := (dC, dI)) (ci := 8) (v := .ref a0_attempt) (C := R_Mo) (T := T_Mo) (N := 28) hx hb htt hin_Mo hown hK hP 0 rfl rfl 10 (by decide) (htt _ kt_779) (fun _ h9 => h9) rfl d_Mo_turn_188 ?_
                  refine lv_iload hx hb d_Mo_turn_191 (lv_at hl 4 rfl) ?_
                  refine lv_aload_n hx hb d_Mo_turn_193 rfl (lv_at hl 0 rfl) ?_
                  refine va_get (D := (dC, dI)) (ci := 8) (v := .ref a0_attempt) (C := R_Mo) (T := T_Mo) (N := 28) hx hb htt hin_Mo hown hK hP 0 rfl rfl 10 (by decide) (htt _ kt_779) (fun _ h9 => h9) rfl d_Mo_turn_194 ?_
                  refine lv_iload hx hb d_Mo_turn_197 (lv_at hl 4 rfl) ?_
                  obtain ⟨hi_26, hm⟩ := gC_e hm
                  refine va_iald hx hb hK hP 2 0 rfl rfl (inb_vp hi_26) d_Mo_turn_199 ?_
                  refine lv_iload_n hx hb d_Mo_turn_200 rfl (lv_at hl 1 rfl) ?_
                  obtain ⟨J_209, hJ_209, hm⟩ := gB_x hm
                  have jp_209 : ∀ (s_27 : Int32) (ls : Array Slot) (H : Heap) (locs : List Loc), J_209 s_27 = some (ret, o_v0_thrown, o_w0_attempt) → lv_has ls 9 [(0, .ref a0), (2, .int p2), (3, .int x3_13), (4, .int x4_15), (6, .int x6_18)] → va_P (dC, dI) vwCl (wd_Mo_turn cI cJ cG cZ a0 a0_from a0_to a0_near a0_lists a0_colours a0_shades a0_tints a0_attempt a0_taken a0_isApart a0_ways a0_next a0_splits a0_powers a0_row a0_many a0_can a0_could a0_arcRow a0_order a0_isOut 0 v0_nodes v0_arcs v0_takenMany v0_leftBits v0_hasPolynomial v0_hasLists w0_near w0_attempt_19) H → va_D A (wd_Mo_turn cI cJ cG cZ a0 a0_from a0_to a0_near a0_lists a0_colours a0_shades a0_tints a0_attempt a0_taken a0_isApart a0_ways a0_next a0_splits a0_powers a0_row a0_many a0_can a0_could a0_arcRow a0_order a0_isOut 0 v0_nodes v0_arcs v0_takenMany v0_leftBits v0_hasPolynomial v0_hasLists w0_near w0_attempt_19) → va_S A s.heap H locs → W p l e (headSpec us_Mo_turn rm_Mo_turn).room s m ([.ref a0, .int p1, .int p2] : List Value).toArray below meth c H locs 0 0 (MQ below (va_Qi (fun (r : Int32) (_ : Unit) => ret = r) (fun _ t => PoS (dC, dI) (tyL cI cJ cG cZ) (wd_Mo_turn cI cJ cG cZ a0 a0_from a0_to a0_near a0_lists a0_colours a0_shades a0_tints a0_attempt a0_taken a0_isApart a0_ways a0_next a0_splits a0_powers a0_row a0_many a0_can a0_could a0_arcRow a0_order a0_isOut o_v0_thrown v0_nodes v0_arcs v0_takenMany v0_leftBits v0_hasPolynomial v0_hasLists w0_near o_w0_attempt) A t) A) ([.ref a0, .int p1, .int p2] : List Value).toArray s 0 0 A) (F0 m 209 ls [.int s_27, .int x6_18, .ref a0_attempt]) := by
                    intro s_27 ls H locs hm hl hP hD hS
                    have hm := jn1 hJ_209 hm
                    obtain ⟨hi_28, hm⟩ := gC_e hm
                    refine va_iast hx hb hK hP hD hS 2 0 rfl rfl (inb_vp hi_28) d_Mo_turn_209 (fun H locs hP hD hS => ?_)
                    have hP : va_P (dC, dI) vwCl (wd_Mo_turn cI cJ cG cZ a0 a0_from a0_to a0_near a0_lists a0_colours a0_shades a0_tints a0_attempt a0_taken a0_isApart a0_ways a0_next a0_splits a0_powers a0_row a0_many a0_can a0_could a0_arcRow a0_order a0_isOut 0 v0_nodes v0_arcs v0_takenMany v0_leftBits v0_hasPolynomial v0_hasLists w0_near (upd w0_attempt_19 x6_18.toNatClampNeg s_27)) H := hP
                    have hD : va_D A (wd_Mo_turn cI cJ cG cZ a0 a0_from a0_to a0_near a0_lists a0_colours a0_shades a0_tints a0_attempt a0_taken a0_isApart a0_ways a0_next a0_splits a0_powers a0_row a0_many a0_can a0_could a0_arcRow a0_order a0_isOut 0 v0_nodes v0_arcs v0_takenMany v0_leftBits v0_hasPolynomial v0_hasLists w0_near (upd w0_attempt_19 x6_18.toNatClampNeg s_27)) := hD
                    obtain ⟨x6_29, ex6_29⟩ : ∃ y : Int32, y = x6_18 + 1 := ⟨_, rfl⟩
                    have hm := gB_at ex6_29 hm
                    refine lv_iinc (v := x6_29) (lv' := [(6, .int x6_29), (0, .ref a0), (2, .int p2), (3, .int x3_13), (4, .int x4_15)]) hx hb d_Mo_turn_210 hl (k := 4) rfl (by rw [ex6_29]; rfl) (by decide) rfl (fun ls hl => ?_)
                    refine lv_goto (tgt := 167) hx hb d_Mo_turn_213 (by decide) ?_
                    exact ih_167 _ hm _ _ rfl ls H locs (lv_sub hl [1, 2, 3, 4, 0] rfl) hP hD hS
                  clear hJ_209
                  refine lv_icmp_ne (tgt := 208) hx hb d_Mo_turn_201 (by decide) (fun c_30 => ?_) (fun c_30 => ?_)
                  · have hm := ite_f c_30 hm
                    refine lv_iload_n hx hb d_Mo_turn_208 rfl (lv_at hl 1 rfl) ?_
                    exact jp_209 _ ls H locs hm (lv_sub hl [0, 1, 2, 3, 4] rfl) hP hD hS
                  · have hm := ite_t c_30 hm
                    refine lv_iload_n hx hb d_Mo_turn_204 rfl (lv_at hl 2 rfl) ?_
                    refine lv_goto (tgt := 209) hx hb d_Mo_turn_205 (by decide) ?_
                    exact jp_209 _ ls H locs hm (lv_sub hl [0, 1, 2, 3, 4] rfl) hP hD hS
            · have hm := ite_f c_17 hm
              refine lv_iload hx hb d_Mo_turn_65 (lv_at hl 3 rfl) ?_
              refine lv_istore (lv' := [(6, .int x4_15), (0, .ref a0), (2, .int p2), (3, .int x3_13), (4, .int x4_15), (5, .int x5_16)]) hx hb d_Mo_turn_67 hl (by decide) rfl (fun ls hl => ?_)
              refine lv_iconst (v := 0) hx hb d_Mo_turn_69 (by decide) ?_
              refine lv_istore (lv' := [(7, .int 0), (6, .int x4_15), (0, .ref a0), (2, .int p2), (3, .int x3_13), (4, .int x4_15), (5, .int x5_16)]) hx hb d_Mo_turn_70 hl (by decide) rfl (fun ls hl => ?_)
              refine gL_e (P := (fun (z_72 : Int32 × Int32) => ∀ (x4_31 : Int32), ∀ (x7_32 : Int32), z_72 = (x4_31, x7_32) → ∀ (ls : Array Slot) (H : Heap) (locs : List Loc), lv_has ls 9 [(0, .ref a0), (2, .int p2), (3, .int x3_13), (4, .int x4_31), (6, .int x4_15), (7, .int x7_32)] → va_P (dC, dI) vwCl (wd_Mo_turn cI cJ cG cZ a0 a0_from a0_to a0_near a0_lists a0_colours a0_shades a0_tints a0_attempt a0_taken a0_isApart a0_ways a0_next a0_splits a0_powers a0_row a0_many a0_can a0_could a0_arcRow a0_order a0_isOut 0 v0_nodes v0_arcs v0_takenMany v0_leftBits v0_hasPolynomial v0_hasLists w0_near w0_attempt) H → va_D A (wd_Mo_turn cI cJ cG cZ a0 a0_from a0_to a0_near a0_lists a0_colours a0_shades a0_tints a0_attempt a0_taken a0_isApart a0_ways a0_next a0_splits a0_powers a0_row a0_many a0_can a0_could a0_arcRow a0_order a0_isOut 0 v0_nodes v0_arcs v0_takenMany v0_leftBits v0_hasPolynomial v0_hasLists w0_near w0_attempt) → va_S A s.heap H locs → W p l e (headSpec us_Mo_turn rm_Mo_turn).room s m ([.ref a0, .int p1, .int p2] : List Value).toArray below meth c H locs 0 0 (MQ below (va_Qi (fun (r : Int32) (_ : Unit) => ret = r) (fun _ t => PoS (dC, dI) (tyL cI cJ cG cZ) (wd_Mo_turn cI cJ cG cZ a0 a0_from a0_to a0_near a0_lists a0_colours a0_shades a0_tints a0_attempt a0_taken a0_isApart a0_ways a0_next a0_splits a0_powers a0_row a0_many a0_can a0_could a0_arcRow a0_order a0_isOut o_v0_thrown v0_nodes v0_arcs v0_takenMany v0_leftBits v0_hasPolynomial v0_hasLists w0_near o_w0_attempt) A t) A) ([.ref a0, .int p1, .int p2] : List Value).toArray s 0 0 A) (F0 m 72 ls []))) hm (fun k_72 z_72 ih_72 hm => ?_) _ _ rfl ls H locs (lv_sub hl [2, 3, 4, 5, 1, 0] rfl) hP hD hS
              intro x4_31 x7_32 hz ls H locs hl hP hD hS
              subst hz
              dsimp only at hm
              refine lv_iload hx hb d_Mo_turn_72 (lv_at hl 5 rfl) ?_
              refine lv_aload_n hx hb d_Mo_turn_74 rfl (lv_at hl 0 rfl) ?_
              refine va_get (D := (dC, dI)) (ci := 8) (v := .int v0_nodes) (C := R_Mo) (T := T_Mo) (N := 28) hx hb htt hin_Mo hown hK hP 0 rfl rfl 1 (by decide) (htt _ kt_770) (fun _ h9 => h9) rfl d_Mo_turn_75 ?_
              refine lv_icmp_ge (tgt := 147) hx hb d_Mo_turn_78 (by decide) (fun c_33 => ?_) (fun c_33 => ?_)
              · have hm := ite_t c_33 hm
                refine lv_iload hx hb d_Mo_turn_147 (lv_at hl 3 rfl) ?_
                refine lv_iload hx hb d_Mo_turn_149 (lv_at hl 4 rfl) ?_
                refine lv_icmp_eq (tgt := 158) hx hb d_Mo_turn_151 (by decide) (fun c_34 => ?_) (fun c_34 => ?_)
                · have hm := ite_t c_34 hm
                  refine lv_iconst (v := 0) hx hb d_Mo_turn_158 (by decide) ?_
                  refine lv_istore (lv' := [(5, .int 0), (0, .ref a0), (2, .int p2), (3, .int x3_13), (4, .int x4_31), (6, .int x4_15), (7, .int x7_32)]) hx hb d_Mo_turn_159 hl (by decide) rfl (fun ls hl => ?_)
                  refine lv_goto (tgt := 60) hx hb d_Mo_turn_161 (by decide) ?_
                  exact ih_60 _ hm _ _ rfl ls H locs (lv_sub hl [1, 2, 3, 4, 0] rfl) hP hD hS
                · have hm := ite_f c_34 hm
                  refine lv_iconst (v := 1) hx hb d_Mo_turn_154 (by decide) ?_
                  refine lv_goto (tgt := 159) hx hb d_Mo_turn_155 (by decide) ?_
                  refine lv_istore (lv' := [(5, .int 1), (0, .ref a0), (2, .int p2), (3, .int x3_13), (4, .int x4_31), (6, .int x4_15), (7, .int x7_32)]) hx hb d_Mo_turn_159 hl (by decide) rfl (fun ls hl => ?_)
                  refine lv_goto (tgt := 60) hx hb d_Mo_turn_161 (by decide) ?_
                  exact ih_60 _ hm _ _ rfl ls H locs (lv_sub hl [1, 2, 3, 4, 0] rfl) hP hD hS
              · have hm := ite_f c_33 hm
                refine lv_aload_n hx hb d_Mo_turn_81 rfl (lv_at hl 0 rfl) ?_
                refine va_get (D := (dC, dI)) (ci := 8) (v := .ref a0_attempt) (C := R_Mo) (T := T_Mo) (N := 28) hx hb htt hin_Mo hown hK hP 0 rfl rfl 10 (by decide) (htt _ kt_779) (fun _ h9 => h9) rfl d_Mo_turn_82 ?_
                refine lv_iload hx hb d_Mo_turn_85 (lv_at hl 5 rfl) ?_
                obtain ⟨hi_35, hm⟩ := gC_e hm
                refine va_iald hx hb hK hP 2 0 rfl rfl (inb_vp hi_35) d_Mo_turn_87 ?_
                refine lv_iload_n hx hb d_Mo_turn_88 rfl (lv_at hl 1 rfl) ?_
                obtain ⟨J_108, hJ_108, hm⟩ := gB_x hm
                have jp_108 : ∀ (s_36 : Int32) (ls : Array Slot) (H : Heap) (locs : List Loc), J_108 s_36 = some (ret, o_v0_thrown, o_w0_attempt) → lv_has ls 9 [(0, .ref a0), (2, .int p2), (3, .int x3_13), (4, .int x4_31), (6, .int x4_15), (7, .int x7_32)] → va_P (dC, dI) vwCl (wd_Mo_turn cI cJ cG cZ a0 a0_from a0_to a0_near a0_lists a0_colours a0_shades a0_tints a0_attempt a0_taken a0_isApart a0_ways a0_next a0_splits a0_powers a0_row a0_many a0_can a0_could a0_arcRow a0_order a0_isOut 0 v0_nodes v0_arcs v0_takenMany v0_leftBits v0_hasPolynomial v0_hasLists w0_near w0_attempt) H → va_D A (wd_Mo_turn cI cJ cG cZ a0 a0_from a0_to a0_near a0_lists a0_colours a0_shades a0_tints a0_attempt a0_taken a0_isApart a0_ways a0_next a0_splits a0_powers a0_row a0_many a0_can a0_could a0_arcRow a0_order a0_isOut 0 v0_nodes v0_arcs v0_takenMany v0_leftBits v0_hasPolynomial v0_hasLists w0_near w0_attempt) → va_S A s.heap H locs → W p l e (headSpec us_Mo_turn rm_Mo_turn).room s m ([.ref a0, .int p1, .int p2] : List Value).toArray below meth c H locs 0 0 (MQ below (va_Qi (fun (r : Int32) (_ : Unit) => ret = r) (fun _ t => PoS (dC, dI) (tyL cI cJ cG cZ) (wd_Mo_turn cI cJ cG cZ a0 a0_from a0_to a0_near a0_lists a0_colours a0_shades a0_tints a0_attempt a0_taken a0_isApart a0_ways a0_next a0_splits a0_powers a0_row a0_many a0_can a0_could a0_arcRow a0_order a0_isOut o_v0_thrown v0_nodes v0_arcs v0_takenMany v0_leftBits v0_hasPolynomial v0_hasLists w0_near o_w0_attempt) A t) A) ([.ref a0, .int p1, .int p2] : List Value).toArray s 0 0 A) (F0 m 108 ls [.int s_36]) := by
                  intro s_36 ls H locs hm hl hP hD hS
                  have hm := jn1 hJ_108 hm
                  refine lv_istore (lv' := [(8, .int s_36), (0, .ref a0), (2, .int p2), (3, .int x3_13), (4, .int x4_31), (6, .int x4_15), (7, .int x7_32)]) hx hb d_Mo_turn_108 hl (by decide) rfl (fun ls hl => ?_)
                  refine lv_iload hx hb d_Mo_turn_110 (lv_at hl 4 rfl) ?_
                  refine lv_iload hx hb d_Mo_turn_112 (lv_at hl 0 rfl) ?_
                  refine lv_if_eq (tgt := 137) hx hb d_Mo_turn_114 (by decide) (fun c_37 => ?_) (fun c_37 => ?_)
                  · have hm := ite_t c_37 hm
                    refine lv_iconst (v := 0) hx hb d_Mo_turn_137 (by decide) ?_
                    refine lv_ior hx hb d_Mo_turn_138 ?_
                    refine lv_topi (fun x4_38 ex4_38 => ?_)
                    have hm := gB_at ex4_38 hm
                    refine lv_istore (lv' := [(4, .int x4_38), (8, .int s_36), (0, .ref a0), (2, .int p2), (3, .int x3_13), (6, .int x4_15), (7, .int x7_32)]) hx hb d_Mo_turn_139 hl (by decide) rfl (fun ls hl => ?_)
                    obtain ⟨x7_39, ex7_39⟩ : ∃ y : Int32, y = x7_32 + 1 := ⟨_, rfl⟩
                    have hm := gB_at ex7_39 hm
                    refine lv_iinc (v := x7_39) (lv' := [(7, .int x7_39), (4, .int x4_38), (8, .int s_36), (0, .ref a0), (2, .int p2), (3, .int x3_13), (6, .int x4_15)]) hx hb d_Mo_turn_141 hl (k := 6) rfl (by rw [ex7_39]; rfl) (by decide) rfl (fun ls hl => ?_)
                    refine lv_goto (tgt := 72) hx hb d_Mo_turn_144 (by decide) ?_
                    exact ih_72 _ hm _ _ rfl ls H locs (lv_sub hl [3, 4, 5, 1, 6, 0] rfl) hP hD hS
                  · have hm := ite_f c_37 hm
                    refine lv_aload_n hx hb d_Mo_turn_117 rfl (lv_at hl 1 rfl) ?_
                    refine va_get (D := (dC, dI)) (ci := 8) (v := .ref a0_near) (C := R_Mo) (T := T_Mo) (N := 28) hx hb htt hin_Mo hown hK hP 0 rfl rfl 5 (by decide) (htt _ kt_774) (fun _ h9 => h9) rfl d_Mo_turn_118 ?_
                    refine lv_iload hx hb d_Mo_turn_121 (lv_at hl 6 rfl) ?_
                    obtain ⟨hi_40, hm⟩ := gC_e hm
                    refine va_iald hx hb hK hP 1 0 rfl rfl (inb_vp hi_40) d_Mo_turn_123 ?_
                    refine lv_iload hx hb d_Mo_turn_124 (lv_at hl 4 rfl) ?_
                    refine lv_iand hx hb d_Mo_turn_126 ?_
                    refine lv_if_eq (tgt := 137) hx hb d_Mo_turn_127 (by decide) (fun c_41 => ?_) (fun c_41 => ?_)
                    · have hm := ite_t c_41 hm
                      refine lv_iconst (v := 0) hx hb d_Mo_turn_137 (by decide) ?_
                      refine lv_ior hx hb d_Mo_turn_138 ?_
                      refine lv_topi (fun x4_42 ex4_42 => ?_)
                      have hm := gB_at ex4_42 hm
                      refine lv_istore (lv' := [(4, .int x4_42), (8, .int s_36), (0, .ref a0), (2, .int p2), (3, .int x3_13), (6, .int x4_15), (7, .int x7_32)]) hx hb d_Mo_turn_139 hl (by decide) rfl (fun ls hl => ?_)
                      obtain ⟨x7_43, ex7_43⟩ : ∃ y : Int32, y = x7_32 + 1 := ⟨_, rfl⟩
                      have hm := gB_at ex7_43 hm
                      refine lv_iinc (v := x7_43) (lv' := [(7, .int x7_43), (4, .int x4_42), (8, .int s_36), (0, .ref a0), (2, .int p2), (3, .int x3_13), (6, .int x4_15)]) hx hb d_Mo_turn_141 hl (k := 6) rfl (by rw [ex7_43]; rfl) (by decide) rfl (fun ls hl => ?_)
                      refine lv_goto (tgt := 72) hx hb d_Mo_turn_144 (by decide) ?_
                      exact ih_72 _ hm _ _ rfl ls H locs (lv_sub hl [3, 4, 5, 1, 6, 0] rfl) hP hD hS
                    · have hm := ite_f c_41 hm
                      refine lv_iconst (v := 1) hx hb d_Mo_turn_130 (by decide) ?_
                      refine lv_iload hx hb d_Mo_turn_131 (lv_at hl 6 rfl) ?_
                      refine lv_ishl hx hb d_Mo_turn_133 ?_
                      refine lv_goto (tgt := 138) hx hb d_Mo_turn_134 (by decide) ?_
                      refine lv_ior hx hb d_Mo_turn_138 ?_
                      refine lv_topi (fun x4_44 ex4_44 => ?_)
                      have hm := gB_at ex4_44 hm
                      refine lv_istore (lv' := [(4, .int x4_44), (8, .int s_36), (0, .ref a0), (2, .int p2), (3, .int x3_13), (6, .int x4_15), (7, .int x7_32)]) hx hb d_Mo_turn_139 hl (by decide) rfl (fun ls hl => ?_)
                      obtain ⟨x7_45, ex7_45⟩ : ∃ y : Int32, y = x7_32 + 1 := ⟨_, rfl⟩
                      have hm := gB_at ex7_45 hm
                      refine lv_iinc (v := x7_45) (lv' := [(7, .int x7_45), (4, .int x4_44), (8, .int s_36), (0, .ref a0), (2, .int p2), (3, .int x3_13), (6, .int x4_15)]) hx hb d_Mo_turn_141 hl (k := 6) rfl (by rw [ex7_45]; rfl) (by decide) rfl (fun ls hl => ?_)
                      refine lv_goto (tgt := 72) hx hb d_Mo_turn_144 (by decide) ?_
                      exact ih_72 _ hm _ _ rfl ls H locs (lv_sub hl [3, 4, 5, 1, 6, 0] rfl) hP hD hS
                clear hJ_108
                obtain ⟨J_103, hJ_103, hm⟩ := gB_x hm
                have jp_103 : ∀ (ls : Array Slot) (H : Heap) (locs : List Loc), J_103 = some (ret, o_v0_thrown, o_w0_attempt) → lv_has ls 9 [(0, .ref a0), (2, .int p2), (3, .int x3_13), (4, .int x4_31), (6, .int x4_15), (7, .int x7_32)] → va_P (dC, dI) vwCl (wd_Mo_turn cI cJ cG cZ a0 a0_from a0_to a0_near a0_lists a0_colours a0_shades a0_tints a0_attempt a0_taken a0_isApart a0_ways a0_next a0_splits a0_powers a0_row a0_many a0_can a0_could a0_arcRow a0_order a0_isOut 0 v0_nodes v0_arcs v0_takenMany v0_leftBits v0_hasPolynomial v0_hasLists w0_near w0_attempt) H → va_D A (wd_Mo_turn cI cJ cG cZ a0 a0_from a0_to a0_near a0_lists a0_colours a0_shades a0_tints a0_attempt a0_taken a0_isApart a0_ways a0_next a0_splits a0_powers a0_row a0_many a0_can a0_could a0_arcRow a0_order a0_isOut 0 v0_nodes v0_arcs v0_takenMany v0_leftBits v0_hasPolynomial v0_hasLists w0_near w0_attempt) → va_S A s.heap H locs → W p l e (headSpec us_Mo_turn rm_Mo_turn).room s m ([.ref a0, .int p1, .int p2] : List Value).toArray below meth c H locs 0 0 (MQ below (va_Qi (fun (r : Int32) (_ : Unit) => ret = r) (fun _ t => PoS (dC, dI) (tyL cI cJ cG cZ) (wd_Mo_turn cI cJ cG cZ a0 a0_from a0_to a0_near a0_lists a0_colours a0_shades a0_tints a0_attempt a0_taken a0_isApart a0_ways a0_next a0_splits a0_powers a0_row a0_many a0_can a0_could a0_arcRow a0_order a0_isOut o_v0_thrown v0_nodes v0_arcs v0_takenMany v0_leftBits v0_hasPolynomial v0_hasLists w0_near o_w0_attempt) A t) A) ([.ref a0, .int p1, .int p2] : List Value).toArray s 0 0 A) (F0 m 103 ls []) := by
                  intro ls H locs hm hl hP hD hS
                  have hm := jn0 hJ_103 hm
                  refine lv_iconst (v := 1) hx hb d_Mo_turn_103 (by decide) ?_
                  refine lv_goto (tgt := 108) hx hb d_Mo_turn_104 (by decide) ?_
                  exact jp_108 _ ls H locs hm (lv_sub hl [0, 1, 2, 3, 4, 5] rfl) hP hD hS
                clear hJ_103
                refine lv_icmp_eq (tgt := 103) hx hb d_Mo_turn_89 (by decide) (fun c_46 => ?_) (fun c_46 => ?_)
                · have hm := ite_t c_46 hm
                  exact jp_103 ls H locs hm (lv_sub hl [0, 1, 2, 3, 4, 5] rfl) hP hD hS
                · have hm := ite_f c_46 hm
                  refine lv_aload_n hx hb d_Mo_turn_92 rfl (lv_at hl 0 rfl) ?_
                  refine va_get (D := (dC, dI)) (ci := 8) (v := .ref a0_attempt) (C := R_Mo) (T := T_Mo) (N := 28) hx hb htt hin_Mo hown hK hP 0 rfl rfl 10 (by decide) (htt _ kt_779) (fun _ h9 => h9) rfl d_Mo_turn_93 ?_
                  refine lv_iload hx hb d_Mo_turn_96 (lv_at hl 5 rfl) ?_
                  obtain ⟨hi_47, hm⟩ := gC_e hm
                  refine va_iald hx hb hK hP 2 0 rfl rfl (inb_vp hi_47) d_Mo_turn_98 ?_
                  refine lv_iload_n hx hb d_Mo_turn_99 rfl (lv_at hl 2 rfl) ?_
                  refine lv_icmp_ne (tgt := 107) hx hb d_Mo_turn_100 (by decide) (fun c_48 => ?_) (fun c_48 => ?_)
                  · have hm := ite_f c_48 hm
                    refine lv_iconst (v := 0) hx hb d_Mo_turn_107 (by decide) ?_
                    exact jp_108 _ ls H locs hm (lv_sub hl [0, 1, 2, 3, 4, 5] rfl) hP hD hS
                  · have hm := ite_t c_48 hm
                    exact jp_103 ls H locs hm (lv_sub hl [0, 1, 2, 3, 4, 5] rfl) hP hD hS
          · have hm := ite_t c_11 hm
            refine lv_iconst (v := (-1)) hx hb d_Mo_turn_43 (by decide) ?_
            cases hm
            exact W.iret hx hb hr (fun t ht hW => ⟨⟨_, (), rfl, rfl, by rw [ht]; exact hP, va_K.moved hW.alike hK, hD⟩, hS.F ht⟩) hS.2.2 d_Mo_turn_44
