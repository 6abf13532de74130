theorem d_Mo_sets_0 : decode prog_10_method_9_code 0 = .ok (.iconst 0, 1) := by decide +kernel
theorem d_Mo_sets_1 : decode prog_10_method_9_code 1 = .ok (.istore_n 1, 1) := by decide +kernel
theorem d_Mo_sets_2 : decode prog_10_method_9_code 2 = .ok (.iload_n 1, 1) := by decide +kernel
theorem d_Mo_sets_3 : decode prog_10_method_9_code 3 = .ok (.iconst 1, 1) := by decide +kernel
theorem d_Mo_sets_4 : decode prog_10_method_9_code 4 = .ok (.aload_n 0, 1) := by decide +kernel
theorem d_Mo_sets_5 : decode prog_10_method_9_code 5 = .ok (.getfield 86, 3) := by decide +kernel
theorem d_Mo_sets_8 : decode prog_10_method_9_code 8 = .ok (.ishl, 1) := by decide +kernel
theorem d_Mo_sets_9 : decode prog_10_method_9_code 9 = .ok (.if_icmp .ge 63, 3) := by decide +kernel
theorem d_Mo_sets_12 : decode prog_10_method_9_code 12 = .ok (.iconst 1, 1) := by decide +kernel
theorem d_Mo_sets_13 : decode prog_10_method_9_code 13 = .ok (.istore_n 2, 1) := by decide +kernel
theorem d_Mo_sets_14 : decode prog_10_method_9_code 14 = .ok (.iconst 0, 1) := by decide +kernel
theorem d_Mo_sets_15 : decode prog_10_method_9_code 15 = .ok (.istore_n 3, 1) := by decide +kernel
theorem d_Mo_sets_16 : decode prog_10_method_9_code 16 = .ok (.iload_n 3, 1) := by decide +kernel
theorem d_Mo_sets_17 : decode prog_10_method_9_code 17 = .ok (.aload_n 0, 1) := by decide +kernel
theorem d_Mo_sets_18 : decode prog_10_method_9_code 18 = .ok (.getfield 86, 3) := by decide +kernel
theorem d_Mo_sets_21 : decode prog_10_method_9_code 21 = .ok (.if_icmp .ge 38, 3) := by decide +kernel
theorem d_Mo_sets_24 : decode prog_10_method_9_code 24 = .ok (.iload_n 2, 1) := by decide +kernel
theorem d_Mo_sets_25 : decode prog_10_method_9_code 25 = .ok (.ifCond .eq 26, 3) := by decide +kernel
theorem d_Mo_sets_28 : decode prog_10_method_9_code 28 = .ok (.iload_n 1, 1) := by decide +kernel
theorem d_Mo_sets_29 : decode prog_10_method_9_code 29 = .ok (.iload_n 3, 1) := by decide +kernel
theorem d_Mo_sets_30 : decode prog_10_method_9_code 30 = .ok (.ishr, 1) := by decide +kernel
theorem d_Mo_sets_31 : decode prog_10_method_9_code 31 = .ok (.iconst 1, 1) := by decide +kernel
theorem d_Mo_sets_32 : decode prog_10_method_9_code 32 = .ok (.iand, 1) := by decide +kernel
theorem d_Mo_sets_33 : decode prog_10_method_9_code 33 = .ok (.ifCond .eq 14, 3) := by decide +kernel
theorem d_Mo_sets_36 : decode prog_10_method_9_code 36 = .ok (.aload_n 0, 1) := by decide +kernel
theorem d_Mo_sets_37 : decode prog_10_method_9_code 37 = .ok (.getfield 16, 3) := by decide +kernel
theorem d_Mo_sets_40 : decode prog_10_method_9_code 40 = .ok (.iload_n 3, 1) := by decide +kernel
theorem d_Mo_sets_41 : decode prog_10_method_9_code 41 = .ok (.iaload, 1) := by decide +kernel
theorem d_Mo_sets_42 : decode prog_10_method_9_code 42 = .ok (.iload_n 1, 1) := by decide +kernel
theorem d_Mo_sets_43 : decode prog_10_method_9_code 43 = .ok (.iand, 1) := by decide +kernel
theorem d_Mo_sets_44 : decode prog_10_method_9_code 44 = .ok (.ifCond .ne 7, 3) := by decide +kernel
theorem d_Mo_sets_47 : decode prog_10_method_9_code 47 = .ok (.iconst 1, 1) := by decide +kernel
theorem d_Mo_sets_48 : decode prog_10_method_9_code 48 = .ok (.goto 4, 3) := by decide +kernel
theorem d_Mo_sets_51 : decode prog_10_method_9_code 51 = .ok (.iconst 0, 1) := by decide +kernel
theorem d_Mo_sets_52 : decode prog_10_method_9_code 52 = .ok (.istore_n 2, 1) := by decide +kernel
theorem d_Mo_sets_53 : decode prog_10_method_9_code 53 = .ok (.iinc 3 1, 3) := by decide +kernel
theorem d_Mo_sets_56 : decode prog_10_method_9_code 56 = .ok (.goto (-40), 3) := by decide +kernel
theorem d_Mo_sets_59 : decode prog_10_method_9_code 59 = .ok (.aload_n 0, 1) := by decide +kernel
theorem d_Mo_sets_60 : decode prog_10_method_9_code 60 = .ok (.getfield 37, 3) := by decide +kernel
theorem d_Mo_sets_63 : decode prog_10_method_9_code 63 = .ok (.iload_n 1, 1) := by decide +kernel
theorem d_Mo_sets_64 : decode prog_10_method_9_code 64 = .ok (.iload_n 2, 1) := by decide +kernel
theorem d_Mo_sets_65 : decode prog_10_method_9_code 65 = .ok (.bastore, 1) := by decide +kernel
theorem d_Mo_sets_66 : decode prog_10_method_9_code 66 = .ok (.iinc 1 1, 3) := by decide +kernel
theorem d_Mo_sets_69 : decode prog_10_method_9_code 69 = .ok (.goto (-67), 3) := by decide +kernel
theorem d_Mo_sets_72 : decode prog_10_method_9_code 72 = .ok (.return_, 1) := by decide +kernel
abbrev wd_Mo_sets (cI cJ cG cZ : ClassId) (a0 a0_from a0_to a0_near a0_lists a0_colours a0_shades a0_tints a0_attempt a0_taken a0_isApart a0_ways a0_next a0_splits a0_powers a0_row a0_many a0_can a0_could a0_arcRow a0_order a0_isOut : Nat) (v0_thrown : Int32) (v0_nodes : Int32) (v0_arcs : Int32) (v0_takenMany : Int32) (v0_leftBits : Int32) (v0_hasPolynomial : Int32) (v0_hasLists : Int32) (w0_near : Nat → Int32) (w0_isApart : Nat → Int32) : va_W := [(a0, .inr (8, [.int v0_thrown, .int v0_nodes, .int v0_arcs, .ref a0_from, .ref a0_to, .ref a0_near, .ref a0_lists, .ref a0_colours, .ref a0_shades, .ref a0_tints, .ref a0_attempt, .int v0_takenMany, .ref a0_taken, .int v0_leftBits, .ref a0_isApart, .ref a0_ways, .ref a0_next, .ref a0_splits, .ref a0_powers, .ref a0_row, .ref a0_many, .int v0_hasPolynomial, .int v0_hasLists, .ref a0_can, .ref a0_could, .ref a0_arcRow, .ref a0_order, .ref a0_isOut])), (a0_near, .inl (cI, 12, .inl w0_near)), (a0_isApart, .inl (cZ, 4096, .inl w0_isApart))]
abbrev us_Mo_sets : List Cond := .code y_Mo_sets prog_10_method_9_code 4 none :: gtbl
abbrev rm_Mo_sets : Room := { frames := 0, cells := 0, slots := 0, locals := 0 }
def m_Mo_sets (F : Nat) (v0_thrown : Int32) (v0_nodes : Int32) (v0_arcs : Int32) (v0_takenMany : Int32) (v0_leftBits : Int32) (v0_hasPolynomial : Int32) (v0_hasLists : Int32) (w0_near : Nat → Int32) (w0_isApart : Nat → Int32) : Option ((Nat → Int32)) :=
  gL (fun (k_2 : (Int32 × (Nat → Int32)) → Option ((Nat → Int32))) (z_2 : Int32 × (Nat → Int32)) => match z_2 with
  | (x1_1, w0_isApart_2) =>
  if ((1 : Int32) <<< (v0_nodes &&& 31)) ≤ x1_1 then (
    some w0_isApart_2
  ) else (
    gL (fun (k_16 : (Int32 × Int32) → Option ((Nat → Int32))) (z_16 : Int32 × Int32) => match z_16 with
    | (x2_4, x3_5) =>
    if v0_nodes ≤ x3_5 then (
      gC (inb x1_1 4096) (
      gB (x1_1 + 1) (fun x1_8 =>
      k_2 (x1_8, upd w0_isApart_2 x1_1.toNatClampNeg (vp_nar .boolean x2_4))))
    ) else (
      if x2_4 = 0 then (
        gB (x3_5 + 1) (fun x3_10 =>
        k_16 (0, x3_10))
      ) else (
        gB (α := Option ((Nat → Int32))) (
          gB (x3_5 + 1) (fun x3_11 =>
          k_16 (1, x3_11))
        ) (fun J_47 =>
        if ((x1_1 >>> (x3_5 &&& 31)) &&& 1) = 0 then (
          J_47
        ) else (
          gC (inb x3_5 12) (
          if ((w0_near x3_5.toNatClampNeg) &&& x1_1) = 0 then (
            J_47
          ) else (
            gB (x3_5 + 1) (fun x3_15 =>
            k_16 (0, x3_15))
          ))
        )
        )
      )
    )
    ) F (1, 0)
  )
  ) F (0, w0_isApart)
set_option maxHeartbeats 4000000 in
set_option maxRecDepth 100000 in
theorem c_Mo_sets (l : Launch) (dC : Nat → ClassId) (dI : Nat → Nat → Nat) (cI cJ cG cZ : ClassId) (a0 a0_from a0_to a0_near a0_lists a0_colours a0_shades a0_tints a0_attempt a0_taken a0_isApart a0_ways a0_next a0_splits a0_powers a0_row a0_many a0_can a0_could a0_arcRow a0_order a0_isOut : Nat) (sz : Nat) (F : Nat) (v0_thrown : Int32) (v0_nodes : Int32) (v0_arcs : Int32) (v0_takenMany : Int32) (v0_leftBits : Int32) (v0_hasPolynomial : Int32) (v0_hasLists : Int32) (w0_near : Nat → Int32) (w0_isApart : Nat → Int32) (o_w0_isApart : Nat → Int32) (hm : m_Mo_sets F v0_thrown v0_nodes v0_arcs v0_takenMany v0_leftBits v0_hasPolynomial v0_hasLists w0_near w0_isApart = some o_w0_isApart) : Met l y_Mo_sets us_Mo_sets rm_Mo_sets (PcS (dC, dI) (tyL cI cJ cG cZ) [.ref a0] sz (wd_Mo_sets cI cJ cG cZ a0 a0_from a0_to a0_near a0_lists a0_colours a0_shades a0_tints a0_attempt a0_taken a0_isApart a0_ways a0_next a0_splits a0_powers a0_row a0_many a0_can a0_could a0_arcRow a0_order a0_isOut v0_thrown v0_nodes v0_arcs v0_takenMany v0_leftBits v0_hasPolynomial v0_hasLists w0_near w0_isApart)) (va_Qv (fun (_ : Unit) => True) (fun _ t => PoS (dC, dI) (tyL cI cJ cG cZ) (wd_Mo_sets cI cJ cG cZ a0 a0_from a0_to a0_near a0_lists a0_colours a0_shades a0_tints a0_attempt a0_taken a0_isApart a0_ways a0_next a0_splits a0_powers a0_row a0_many a0_can a0_could a0_arcRow a0_order a0_isOut v0_thrown v0_nodes v0_arcs v0_takenMany v0_leftBits v0_hasPolynomial v0_hasLists w0_near o_w0_isApart) (va_A (wd_Mo_sets cI cJ cG cZ a0 a0_from a0_to a0_near a0_lists a0_colours a0_shades a0_tints a0_attempt a0_taken a0_isApart a0_ways a0_next a0_splits a0_powers a0_row a0_many a0_can a0_could a0_arcRow a0_order a0_isOut v0_thrown v0_nodes v0_arcs v0_takenMany v0_leftBits v0_hasPolynomial v0_hasLists w0_near w0_isApart) sz) t) (va_A (wd_Mo_sets cI cJ cG cZ a0 a0_from a0_to a0_near a0_lists a0_colours a0_shades a0_tints a0_attempt a0_taken a0_isApart a0_ways a0_next a0_splits a0_powers a0_row a0_many a0_can a0_could a0_arcRow a0_order a0_isOut v0_thrown v0_nodes v0_arcs v0_takenMany v0_leftBits v0_hasPolynomial v0_hasLists w0_near w0_isApart) sz)) 0 0 (va_A (wd_Mo_sets cI cJ cG cZ a0 a0_from a0_to a0_near a0_lists a0_colours a0_shades a0_tints a0_attempt a0_taken a0_isApart a0_ways a0_next a0_splits a0_powers a0_row a0_many a0_can a0_could a0_arcRow a0_order a0_isOut v0_thrown v0_nodes v0_arcs v0_takenMany v0_leftBits v0_hasPolynomial v0_hasLists w0_near w0_isApart) sz) := by
  refine Met.ofW (cc := prog_10_method_9_code) (maxL := 4) (ret := none) (by decide) rfl ?_
  intro p e s m args below meth c s₁ B hml hv
  obtain ⟨rfl, hsz, hP, hK, hD0, hNw⟩ := hv
  have hx := B.exec
  have hb := B.bytes
  have hr := B.returns
  have htt : ∀ w ∈ gtbl, w.before _ s = true := fun w h => atoms_spec (ws := us_Mo_sets) B.pre w (List.mem_cons_of_mem _ h)
  have hown : s.vm.findClass R_Mo = some m.cls := findClass_of_methodNamed B.named
  have hlocks := B.notSynchronized
  subst hsz
  have hD := hD0.self (sz := s.heap.size)
  generalize hAe : va_A (wd_Mo_sets cI cJ cG cZ a0 a0_from a0_to a0_near a0_lists a0_colours a0_shades a0_tints a0_attempt a0_taken a0_isApart a0_ways a0_next a0_splits a0_powers a0_row a0_many a0_can a0_could a0_arcRow a0_order a0_isOut v0_thrown v0_nodes v0_arcs v0_takenMany v0_leftBits v0_hasPolynomial v0_hasLists w0_near w0_isApart) s.heap.size = A at hD ⊢
  have hA : ∀ q : Nat, s.heap.size ≤ q → A q := fun q h => by rw [← hAe]; exact Or.inr h
  clear hAe hD0
  have hS : va_S A s.heap s.heap [] := va_S.rf
  have hl := lv_entry ([.ref a0]) (n := 4) (Nat.le_of_ble_eq_true rfl)
  rw [lg_entry_eq]
  generalize (lg_sl ([.ref a0]) ++ List.replicate (4 - (lg_sl ([.ref a0])).length) Slot.unset).toArray = ls at hl ⊢
  have hl : lv_has ls 4 [(0, .ref a0)] := hl
  generalize hH : s.heap = H at hP ⊢
  have hS : va_S A s.heap H [] := hH ▸ hS
  generalize hLo : ([] : List Loc) = locs at hS ⊢
  clear hH hLo
  unfold m_Mo_sets at hm
  refine lv_iconst (v := 0) hx hb d_Mo_sets_0 (by decide) ?_
  refine lv_istore_n (lv' := [(1, .int 0), (0, .ref a0)]) hx hb d_Mo_sets_1 rfl hl (by decide) rfl (fun ls hl => ?_)
  refine gL_e (P := (fun (z_2 : Int32 × (Nat → Int32)) => ∀ (x1_1 : Int32), ∀ (w0_isApart_2 : Nat → Int32), z_2 = (x1_1, w0_isApart_2) → ∀ (ls : Array Slot) (H : Heap) (locs : List Loc), lv_has ls 4 [(0, .ref a0), (1, .int x1_1)] → va_P (dC, dI) vwCl (wd_Mo_sets cI cJ cG cZ a0 a0_from a0_to a0_near a0_lists a0_colours a0_shades a0_tints a0_attempt a0_taken a0_isApart a0_ways a0_next a0_splits a0_powers a0_row a0_many a0_can a0_could a0_arcRow a0_order a0_isOut v0_thrown v0_nodes v0_arcs v0_takenMany v0_leftBits v0_hasPolynomial v0_hasLists w0_near w0_isApart_2) H → va_D A (wd_Mo_sets cI cJ cG cZ a0 a0_from a0_to a0_near a0_lists a0_colours a0_shades a0_tints a0_attempt a0_taken a0_isApart a0_ways a0_next a0_splits a0_powers a0_row a0_many a0_can a0_could a0_arcRow a0_order a0_isOut v0_thrown v0_nodes v0_arcs v0_takenMany v0_leftBits v0_hasPolynomial v0_hasLists w0_near w0_isApart_2) → va_S A s.heap H locs → W p l e (headSpec us_Mo_sets rm_Mo_sets).room s m ([.ref a0] : List Value).toArray below meth c H locs 0 0 (MQ below (va_Qv (fun (_ : Unit) => True) (fun _ t => PoS (dC, dI) (tyL cI cJ cG cZ) (wd_Mo_sets cI cJ cG cZ a0 a0_from a0_to a0_near a0_lists a0_colours a0_shades a0_tints a0_attempt a0_taken a0_isApart a0_ways a0_next a0_splits a0_powers a0_row a0_many a0_can a0_could a0_arcRow a0_order a0_isOut v0_thrown v0_nodes v0_arcs v0_takenMany v0_leftBits v0_hasPolynomial v0_hasLists w0_near o_w0_isApart) A t) A) ([.ref a0] : List Value).toArray s 0 0 A) (F0 m 2 ls []))) hm (fun k_2 z_2 ih_2 hm => ?_) _ _ rfl ls H locs (lv_sub hl [1, 0] rfl) hP hD hS
  intro x1_1 w0_isApart_2 hz ls H locs hl hP hD hS
  subst hz
  dsimp only at hm
  refine lv_iload_n hx hb d_Mo_sets_2 rfl (lv_at hl 1 rfl) ?_
  refine lv_iconst (v := 1) hx hb d_Mo_sets_3 (by decide) ?_
  refine lv_aload_n hx hb d_Mo_sets_4 rfl (lv_at hl 0 rfl) ?_
  refine va_get (D := (dC, dI)) (ci := 8) (v := .int v0_nodes) (C := R_Mo) (T := T_Mo) (N := 28) hx hb htt hin_Mo hown hK hP 0 rfl rfl 1 (by decide) (htt _ kt_770) (fun _ h9 => h9) rfl d_Mo_sets_5 ?_
  refine lv_ishl hx hb d_Mo_sets_8 ?_
  refine lv_icmp_ge (tgt := 72) hx hb d_Mo_sets_9 (by decide) (fun c_3 => ?_) (fun c_3 => ?_)
  · have hm := ite_t c_3 hm
    cases hm
    exact W.vret hx hb hr (fun t ht hW => ⟨⟨(), rfl, trivial, by rw [ht]; exact hP, va_K.moved hW.alike hK, hD⟩, hS.F ht⟩) hS.2.2 d_Mo_sets_72
  · have hm := ite_f c_3 hm
    refine lv_iconst (v := 1) hx hb d_Mo_sets_12 (by decide) ?_
    refine lv_istore_n (lv' := [(2, .int 1), (0, .ref a0), (1, .int x1_1)]) hx hb d_Mo_sets_13 rfl hl (by decide) rfl (fun ls hl => ?_)
    refine lv_iconst (v := 0) hx hb d_Mo_sets_14 (by decide) ?_
    refine lv_istore_n (lv' := [(3, .int 0), (2, .int 1), (0, .ref a0), (1, .int x1_1)]) hx hb d_Mo_sets_15 rfl hl (by decide) rfl (fun ls hl => ?_)
    refine gL_e (P := (fun (z_16 : Int32 × Int32) => ∀ (x2_4 : Int32), ∀ (x3_5 : Int32), z_16 = (x2_4, x3_5) → ∀ (ls : Array Slot) (H : Heap) (locs : List Loc), lv_has ls 4 [(0, .ref a0), (1, .int x1_1), (2, .int x2_4), (3, .int x3_5)] → va_P (dC, dI) vwCl (wd_Mo_sets cI cJ cG cZ a0 a0_from a0_to a0_near a0_lists a0_colours a0_shades a0_tints a0_attempt a0_taken a0_isApart a0_ways a0_next a0_splits a0_powers a0_row a0_many a0_can a0_could a0_arcRow a0_order a0_isOut v0_thrown v0_nodes v0_arcs v0_takenMany v0_leftBits v0_hasPolynomial v0_hasLists w0_near w0_isApart_2) H → va_D A (wd_Mo_sets cI cJ cG cZ a0 a0_from a0_to a0_near a0_lists a0_colours a0_shades a0_tints a0_attempt a0_taken a0_isApart a0_ways a0_next a0_splits a0_powers a0_row a0_many a0_can a0_could a0_arcRow a0_order a0_isOut v0_thrown v0_nodes v0_arcs v0_takenMany v0_leftBits v0_hasPolynomial v0_hasLists w0_near w0_isApart_2) → va_S A s.heap H locs → W p l e (headSpec us_Mo_sets rm_Mo_sets).room s m ([.ref a0] : List Value).toArray below meth c H locs 0 0 (MQ below (va_Qv (fun (_ : Unit) => True) (fun _ t => PoS (dC, dI) (tyL cI cJ cG cZ) (wd_Mo_sets cI cJ cG cZ a0 a0_from a0_to a0_near a0_lists a0_colours a0_shades a0_tints a0_attempt a0_taken a0_isApart a0_ways a0_next a0_splits a0_powers a0_row a0_many a0_can a0_could a0_arcRow a0_order a0_isOut v0_thrown v0_nodes v0_arcs v0_takenMany v0_leftBits v0_hasPolynomial v0_hasLists w0_near o_w0_isApart) A t) A) ([.ref a0] : List Value).toArray s 0 0 A) (F0 m 16 ls []))) hm (fun k_16 z_16 ih_16 hm => ?_) _ _ rfl ls H locs (lv_sub hl [2, 3, 1, 0] rfl) hP hD hS
    intro x2_4 x3_5 hz ls H locs hl hP hD hS
    subst hz
    dsimp only at hm
    refine lv_iload_n hx hb d_Mo_sets_16 rfl (lv_at hl 3 rfl) ?_
    refine lv_aload_n hx hb d_Mo_sets_17 rfl (lv_at hl 0 rfl) ?_
    refine va_get (D := (dC, dI)) (ci := 8) (v := .int v0_nodes) (C := R_Mo) (T := T_Mo) (N := 28) hx hb htt hin_Mo hown hK hP 0 rfl rfl 1 (by decide) (htt _ kt_770) (fun _ h9 => h9) rfl d_Mo_sets_18 ?_
    refine lv_icmp_ge (tgt := 59) hx hb d_Mo_sets_21 (by decide) (fun c_6 => ?_) (fun c_6 => ?_)
    · have hm := ite_t c_6 hm
      refine lv_aload_n hx hb d_Mo_sets_59 rfl (lv_at hl 0 rfl) ?_
      refine va_get (D := (dC, dI)) (ci := 8) (v := .ref a0_isApart) (C := R_Mo) (T := T_Mo) (N := 28) hx hb htt hin_Mo hown hK hP 0 rfl rfl 14 (by decide) (htt _ kt_783) (fun _ h9 => h9) rfl d_Mo_sets_60 ?_
      refine lv_iload_n hx hb d_Mo_sets_63 rfl (lv_at hl 1 rfl) ?_
      refine lv_iload_n hx hb d_Mo_sets_64 rfl (lv_at hl 2 rfl) ?_
      obtain ⟨hi_7, hm⟩ := gC_e hm
      refine va_zast hx hb hK hP hD hS 2 3 rfl rfl (inb_vp hi_7) d_Mo_sets_65 (fun H locs hP hD hS => ?_)
      have hP : va_P (dC, dI) vwCl (wd_Mo_sets cI cJ cG cZ a0 a0_from a0_to a0_near a0_lists a0_colours a0_shades a0_tints a0_attempt a0_taken a0_isApart a0_ways a0_next a0_splits a0_powers a0_row a0_many a0_can a0_could a0_arcRow a0_order a0_isOut v0_thrown v0_nodes v0_arcs v0_takenMany v0_leftBits v0_hasPolynomial v0_hasLists w0_near (upd w0_isApart_2 x1_1.toNatClampNeg (vp_nar .boolean x2_4))) H := hP
      have hD : va_D A (wd_Mo_sets cI cJ cG cZ a0 a0_from a0_to a0_near a0_lists a0_colours a0_shades a0_tints a0_attempt a0_taken a0_isApart a0_ways a0_next a0_splits a0_powers a0_row a0_many a0_can a0_could a0_arcRow a0_order a0_isOut v0_thrown v0_nodes v0_arcs v0_takenMany v0_leftBits v0_hasPolynomial v0_hasLists w0_near (upd w0_isApart_2 x1_1.toNatClampNeg (vp_nar .boolean x2_4))) := hD
      obtain ⟨x1_8, ex1_8⟩ : ∃ y : Int32, y = x1_1 + 1 := ⟨_, rfl⟩
      have hm := gB_at ex1_8 hm
      refine lv_iinc (v := x1_8) (lv' := [(1, .int x1_8), (0, .ref a0), (2, .int x2_4), (3, .int x3_5)]) hx hb d_Mo_sets_66 hl (k := 1) rfl (by rw [ex1_8]; rfl) (by decide) rfl (fun ls hl => ?_)
      refine lv_goto (tgt := 2) hx hb d_Mo_sets_69 (by decide) ?_
      exact ih_2 _ hm _ _ rfl ls H locs (lv_sub hl [1, 0] rfl) hP hD hS
    · have hm := ite_f c_6 hm
      refine lv_iload_n hx hb d_Mo_sets_24 rfl (lv_at hl 2 rfl) ?_
      refine lv_if_eq (tgt := 51) hx hb d_Mo_sets_25 (by decide) (fun c_9 => ?_) (fun c_9 => ?_)
      · have hm := ite_t c_9 hm
        refine lv_iconst (v := 0) hx hb d_Mo_sets_51 (by decide) ?_
        refine lv_istore_n (lv' := [(2, .int 0), (0, .ref a0), (1, .int x1_1), (3, .int x3_5)]) hx hb d_Mo_sets_52 rfl hl (by decide) rfl (fun ls hl => ?_)
        obtain ⟨x3_10, ex3_10⟩ : ∃ y : Int32, y = x3_5 + 1 := ⟨_, rfl⟩
        have hm := gB_at ex3_10 hm
        refine lv_iinc (v := x3_10) (lv' := [(3, .int x3_10), (2, .int 0), (0, .ref a0), (1, .int x1_1)]) hx hb d_Mo_sets_53 hl (k := 3) rfl (by rw [ex3_10]; rfl) (by decide) rfl (fun ls hl => ?_)
        refine lv_goto (tgt := 16) hx hb d_Mo_sets_56 (by decide) ?_
        exact ih_16 _ hm _ _ rfl ls H locs (lv_sub hl [2, 3, 1, 0] rfl) hP hD hS
      · have hm := ite_f c_9 hm
        refine lv_iload_n hx hb d_Mo_sets_28 rfl (lv_at hl 1 rfl) ?_
        refine lv_iload_n hx hb d_Mo_sets_29 rfl (lv_at hl 3 rfl) ?_
        refine lv_ishr hx hb d_Mo_sets_30 ?_
        refine lv_iconst (v := 1) hx hb d_Mo_sets_31 (by decide) ?_
        refine lv_iand hx hb d_Mo_sets_32 ?_
        obtain ⟨J_47, hJ_47, hm⟩ := gB_x hm
        have jp_47 : ∀ (ls : Array Slot) (H : Heap) (locs : List Loc), J_47 = some o_w0_isApart → lv_has ls 4 [(0, .ref a0), (1, .int x1_1), (3, .int x3_5)] → va_P (dC, dI) vwCl (wd_Mo_sets cI cJ cG cZ a0 a0_from a0_to a0_near a0_lists a0_colours a0_shades a0_tints a0_attempt a0_taken a0_isApart a0_ways a0_next a0_splits a0_powers a0_row a0_many a0_can a0_could a0_arcRow a0_order a0_isOut v0_thrown v0_nodes v0_arcs v0_takenMany v0_leftBits v0_hasPolynomial v0_hasLists w0_near w0_isApart_2) H → va_D A (wd_Mo_sets cI cJ cG cZ a0 a0_from a0_to a0_near a0_lists a0_colours a0_shades a0_tints a0_attempt a0_taken a0_isApart a0_ways a0_next a0_splits a0_powers a0_row a0_many a0_can a0_could a0_arcRow a0_order a0_isOut v0_thrown v0_nodes v0_arcs v0_takenMany v0_leftBits v0_hasPolynomial v0_hasLists w0_near w0_isApart_2) → va_S A s.heap H locs → W p l e (headSpec us_Mo_sets rm_Mo_sets).room s m ([.ref a0] : List Value).toArray below meth c H locs 0 0 (MQ below (va_Qv (fun (_ : Unit) => True) (fun _ t => PoS (dC, dI) (tyL cI cJ cG cZ) (wd_Mo_sets cI cJ cG cZ a0 a0_from a0_to a0_near a0_lists a0_colours a0_shades a0_tints a0_attempt a0_taken a0_isApart a0_ways a0_next a0_splits a0_powers a0_row a0_many a0_can a0_could a0_arcRow a0_order a0_isOut v0_thrown v0_nodes v0_arcs v0_takenMany v0_leftBits v0_hasPolynomial v0_hasLists w0_near o_w0_isApart) A t) A) ([.ref a0] : List Value).toArray s 0 0 A) (F0 m 47 ls []) := by
          intro ls H locs hm hl hP hD hS
          have hm := jn0 hJ_47 hm
          refine lv_iconst (v := 1) hx hb d_Mo_sets_47 (by decide) ?_
          refine lv_goto (tgt := 52) hx hb d_Mo_sets_48 (by decide) ?_
          refine lv_istore_n (lv' := [(2, .int 1), (0, .ref a0), (1, .int x1_1), (3, .int x3_5)]) hx hb d_Mo_sets_52 rfl hl (by decide) rfl (fun ls hl => ?_)
          obtain ⟨x3_11, ex3_11⟩ : ∃ y : Int32, y = x3_5 + 1 := ⟨_, rfl⟩
          have hm := gB_at ex3_11 hm
          refine lv_iinc (v := x3_11) (lv' := [(3, .int x3_11), (2, .int 1), (0, .ref a0), (1, .int x1_1)]) hx hb d_Mo_sets_53 hl (k := 3) rfl (by rw [ex3_11]; rfl) (by decide) rfl (fun ls hl => ?_)
          refine lv_goto (tgt := 16) hx hb d_Mo_sets_56 (by decide) ?_
          exact ih_16 _ hm _ _ rfl ls H locs (lv_sub hl [2, 3, 1, 0] rfl) hP hD hS
        clear hJ_47
        refine lv_if_eq (tgt := 47) hx hb d_Mo_sets_33 (by decide) (fun c_12 => ?_) (fun c_12 => ?_)
        · have hm := ite_t c_12 hm
          exact jp_47 ls H locs hm (lv_sub hl [0, 1, 3] rfl) hP hD hS
        · have hm := ite_f c_12 hm
          refine lv_aload_n hx hb d_Mo_sets_36 rfl (lv_at hl 0 rfl) ?_
          refine va_get (D := (dC, dI)) (ci := 8) (v := .ref a0_near) (C := R_Mo) (T := T_Mo) (N := 28) hx hb htt hin_Mo hown hK hP 0 rfl rfl 5 (by decide) (htt _ kt_774) (fun _ h9 => h9) rfl d_Mo_sets_37 ?_
          refine lv_iload_n hx hb d_Mo_sets_40 rfl (lv_at hl 3 rfl) ?_
          obtain ⟨hi_13, hm⟩ := gC_e hm
          refine va_iald hx hb hK hP 1 0 rfl rfl (inb_vp hi_13) d_Mo_sets_41 ?_
          refine lv_iload_n hx hb d_Mo_sets_42 rfl (lv_at hl 1 rfl) ?_
          refine lv_iand hx hb d_Mo_sets_43 ?_
          refine lv_if_ne (tgt := 51) hx hb d_Mo_sets_44 (by decide) (fun c_14 => ?_) (fun c_14 => ?_)
          · have hm := ite_f c_14 hm
            refine lv_iconst (v := 0) hx hb d_Mo_sets_51 (by decide) ?_
            refine lv_istore_n (lv' := [(2, .int 0), (0, .ref a0), (1, .int x1_1), (3, .int x3_5)]) hx hb d_Mo_sets_52 rfl hl (by decide) rfl (fun ls hl => ?_)
            obtain ⟨x3_15, ex3_15⟩ : ∃ y : Int32, y = x3_5 + 1 := ⟨_, rfl⟩
            have hm := gB_at ex3_15 hm
            refine lv_iinc (v := x3_15) (lv' := [(3, .int x3_15), (2, .int 0), (0, .ref a0), (1, .int x1_1)]) hx hb d_Mo_sets_53 hl (k := 3) rfl (by rw [ex3_15]; rfl) (by decide) rfl (fun ls hl => ?_)
            refine lv_goto (tgt := 16) hx hb d_Mo_sets_56 (by decide) ?_
            exact ih_16 _ hm _ _ rfl ls H locs (lv_sub hl [2, 3, 1, 0] rfl) hP hD hS
          · have hm := ite_t c_14 hm
            exact jp_47 ls H locs hm (lv_sub hl [0, 1, 3] rfl) hP hD hS
theorem d_Mo_fits_0 : decode prog_10_method_10_code 0 = .ok (.iconst 1, 1) := by decide +kernel
theorem d_Mo_fits_1 : decode prog_10_method_10_code 1 = .ok (.istore_n 3, 1) := by decide +kernel
theorem d_Mo_fits_2 : decode prog_10_method_10_code 2 = .ok (.iconst 0, 1) := by decide +kernel
theorem d_Mo_fits_3 : decode prog_10_method_10_code 3 = .ok (.istore 4, 2) := by decide +kernel
theorem d_Mo_fits_5 : decode prog_10_method_10_code 5 = .ok (.iload 4, 2) := by decide +kernel
theorem d_Mo_fits_7 : decode prog_10_method_10_code 7 = .ok (.iload_n 1, 1) := by decide +kernel
theorem d_Mo_fits_8 : decode prog_10_method_10_code 8 = .ok (.if_icmp .ge 45, 3) := by decide +kernel
theorem d_Mo_fits_11 : decode prog_10_method_10_code 11 = .ok (.iload_n 3, 1) := by decide +kernel
theorem d_Mo_fits_12 : decode prog_10_method_10_code 12 = .ok (.ifCond .eq 33, 3) := by decide +kernel
theorem d_Mo_fits_15 : decode prog_10_method_10_code 15 = .ok (.aload_n 0, 1) := by decide +kernel
theorem d_Mo_fits_16 : decode prog_10_method_10_code 16 = .ok (.getfield 16, 3) := by decide +kernel
theorem d_Mo_fits_19 : decode prog_10_method_10_code 19 = .ok (.iload_n 1, 1) := by decide +kernel
theorem d_Mo_fits_20 : decode prog_10_method_10_code 20 = .ok (.iaload, 1) := by decide +kernel
theorem d_Mo_fits_21 : decode prog_10_method_10_code 21 = .ok (.iload 4, 2) := by decide +kernel
theorem d_Mo_fits_23 : decode prog_10_method_10_code 23 = .ok (.ishr, 1) := by decide +kernel
theorem d_Mo_fits_24 : decode prog_10_method_10_code 24 = .ok (.iconst 1, 1) := by decide +kernel
theorem d_Mo_fits_25 : decode prog_10_method_10_code 25 = .ok (.iand, 1) := by decide +kernel
theorem d_Mo_fits_26 : decode prog_10_method_10_code 26 = .ok (.iconst 1, 1) := by decide +kernel
theorem d_Mo_fits_27 : decode prog_10_method_10_code 27 = .ok (.if_icmp .ne 14, 3) := by decide +kernel
theorem d_Mo_fits_30 : decode prog_10_method_10_code 30 = .ok (.aload_n 0, 1) := by decide +kernel
theorem d_Mo_fits_31 : decode prog_10_method_10_code 31 = .ok (.getfield 55, 3) := by decide +kernel
theorem d_Mo_fits_34 : decode prog_10_method_10_code 34 = .ok (.iload 4, 2) := by decide +kernel
theorem d_Mo_fits_36 : decode prog_10_method_10_code 36 = .ok (.iaload, 1) := by decide +kernel
theorem d_Mo_fits_37 : decode prog_10_method_10_code 37 = .ok (.iload_n 2, 1) := by decide +kernel
theorem d_Mo_fits_38 : decode prog_10_method_10_code 38 = .ok (.if_icmp .eq 7, 3) := by decide +kernel
theorem d_Mo_fits_41 : decode prog_10_method_10_code 41 = .ok (.iconst 1, 1) := by decide +kernel
theorem d_Mo_fits_42 : decode prog_10_method_10_code 42 = .ok (.goto 4, 3) := by decide +kernel
theorem d_Mo_fits_45 : decode prog_10_method_10_code 45 = .ok (.iconst 0, 1) := by decide +kernel
theorem d_Mo_fits_46 : decode prog_10_method_10_code 46 = .ok (.istore_n 3, 1) := by decide +kernel
theorem d_Mo_fits_47 : decode prog_10_method_10_code 47 = .ok (.iinc 4 1, 3) := by decide +kernel
theorem d_Mo_fits_50 : decode prog_10_method_10_code 50 = .ok (.goto (-45), 3) := by decide +kernel
theorem d_Mo_fits_53 : decode prog_10_method_10_code 53 = .ok (.iload_n 3, 1) := by decide +kernel
theorem d_Mo_fits_54 : decode prog_10_method_10_code 54 = .ok (.ireturn, 1) := by decide +kernel
abbrev wd_Mo_fits (cI cJ cG cZ : ClassId) (a0 a0_from a0_to a0_near a0_lists a0_colours a0_shades a0_tints a0_attempt a0_taken a0_isApart a0_ways a0_next a0_splits a0_powers a0_row a0_many a0_can a0_could a0_arcRow a0_order a0_isOut : Nat) (v0_thrown : Int32) (v0_nodes : Int32) (v0_arcs : Int32) (v0_takenMany : Int32) (v0_leftBits : Int32) (v0_hasPolynomial : Int32) (v0_hasLists : Int32) (w0_near : Nat → Int32) (w0_row : Nat → Int32) : va_W := [(a0, .inr (8, [.int v0_thrown, .int v0_nodes, .int v0_arcs, .ref a0_from, .ref a0_to, .ref a0_near, .ref a0_lists, .ref a0_colours, .ref a0_shades, .ref a0_tints, .ref a0_attempt, .int v0_takenMany, .ref a0_taken, .int v0_leftBits, .ref a0_isApart, .ref a0_ways, .ref a0_next, .ref a0_splits, .ref a0_powers, .ref a0_row, .ref a0_many, .int v0_hasPolynomial, .int v0_hasLists, .ref a0_can, .ref a0_could, .ref a0_arcRow, .ref a0_order, .ref a0_isOut])), (a0_near, .inl (cI, 12, .inl w0_near)), (a0_row, .inl (cI, 12, .inl w0_row))]
abbrev us_Mo_fits : List Cond := .code y_Mo_fits prog_10_method_10_code 5 (some .boolean) :: gtbl
abbrev rm_Mo_fits : Room := { frames := 0, cells := 0, slots := 0, locals := 0 }
def m_Mo_fits (F : Nat) (v0_thrown : Int32) (v0_nodes : Int32) (v0_arcs : Int32) (v0_takenMany : Int32) (v0_leftBits : Int32) (v0_hasPolynomial : Int32) (v0_hasLists : Int32) (w0_near : Nat → Int32) (w0_row : Nat → Int32) (p1 : Int32) (p2 : Int32) : Option (Int32) :=
  gL (fun (k_5 : (Int32 × Int32) → Option (Int32)) (z_5 : Int32 × Int32) => match z_5 with
  | (x3_1, x4_2) =>
  if p1 ≤ x4_2 then (
    gC (bzB x3_1) (some x3_1)
  ) else (
    if x3_1 = 0 then (
      gB (x4_2 + 1) (fun x4_6 =>
      k_5 (0, x4_6))
    ) else (
      gC (inb p1 12) (
      gB (α := Option (Int32)) (
        gB (x4_2 + 1) (fun x4_8 =>
        k_5 (1, x4_8))
      ) (fun J_41 =>
      if (((w0_near p1.toNatClampNeg) >>> (x4_2 &&& 31)) &&& 1) = (1 : Int32) then (
        gC (inb x4_2 12) (
        if (w0_row x4_2.toNatClampNeg) = p2 then (
          gB (x4_2 + 1) (fun x4_12 =>
          k_5 (0, x4_12))
        ) else (
          J_41
        ))
      ) else (
        J_41
      )
      ))
    )
  )
  ) F (1, 0)
set_option maxHeartbeats 4000000 in
set_option maxRecDepth 100000 in
theorem c_Mo_fits (l : Launch) (dC : Nat → ClassId) (dI : Nat → Nat → Nat) (cI cJ cG cZ : ClassId) (a0 a0_from a0_to a0_near a0_lists a0_colours a0_shades a0_tints a0_attempt a0_taken a0_isApart a0_ways a0_next a0_splits a0_powers a0_row a0_many a0_can a0_could a0_arcRow a0_order a0_isOut : Nat) (sz : Nat) (F : Nat) (v0_thrown : Int32) (v0_nodes : Int32) (v0_arcs : Int32) (v0_takenMany : Int32) (v0_leftBits : Int32) (v0_hasPolynomial : Int32) (v0_hasLists : Int32) (w0_near : Nat → Int32) (w0_row : Nat → Int32) (p1 : Int32) (p2 : Int32) (ret : Int32) (hm : m_Mo_fits F v0_thrown v0_nodes v0_arcs v0_takenMany v0_leftBits v0_hasPolynomial v0_hasLists w0_near w0_row p1 p2 = some ret) : Met l y_Mo_fits us_Mo_fits rm_Mo_fits (PcS (dC, dI) (tyL cI cJ cG cZ) [.ref a0, .int p1, .int p2] sz (wd_Mo_fits cI cJ cG cZ a0 a0_from a0_to a0_near a0_lists a0_colours a0_shades a0_tints a0_attempt a0_taken a0_isApart a0_ways a0_next a0_splits a0_powers a0_row a0_many a0_can a0_could a0_arcRow a0_order a0_isOut v0_thrown v0_nodes v0_arcs v0_takenMany v0_leftBits v0_hasPolynomial v0_hasLists w0_near w0_row)) (va_Qi (fun (r : Int32) (_ : Unit) => ret = r ∧ bz r) (fun _ t => PoS (dC, dI) (tyL cI cJ cG cZ) (wd_Mo_fits cI cJ cG cZ a0 a0_from a0_to a0_near a0_lists a0_colours a0_shades a0_tints a0_attempt a0_taken a0_isApart a0_ways a0_next a0_splits a0_powers a0_row a0_many a0_can a0_could a0_arcRow a0_order a0_isOut v0_thrown v0_nodes v0_arcs v0_takenMany v0_leftBits v0_hasPolynomial v0_hasLists w0_near w0_row) (va_A (wd_Mo_fits cI cJ cG cZ a0 a0_from a0_to a0_near a0_lists a0_colours a0_shades a0_tints a0_attempt a0_taken a0_isApart a0_ways a0_next a0_splits a0_powers a0_row a0_many a0_can a0_could a0_arcRow a0_order a0_isOut v0_thrown v0_nodes v0_arcs v0_takenMany v0_leftBits v0_hasPolynomial v0_hasLists w0_near w0_row) sz) t) (va_A (wd_Mo_fits cI cJ cG cZ a0 a0_from a0_to a0_near a0_lists a0_colours a0_shades a0_tints a0_attempt a0_taken a0_isApart a0_ways a0_next a0_splits a0_powers a0_row a0_many a0_can a0_could a0_arcRow a0_order a0_isOut v0_thrown v0_nodes v0_arcs v0_takenMany v0_leftBits v0_hasPolynomial v0_hasLists w0_near w0_row) sz)) 0 0 (va_A (wd_Mo_fits cI cJ cG cZ a0 a0_from a0_to a0_near a0_lists a0_colours a0_shades a0_tints a0_attempt a0_taken a0_isApart a0_ways a0_next a0_splits a0_powers a0_row a0_many a0_can a0_could a0_arcRow a0_order a0_isOut v0_thrown v0_nodes v0_arcs v0_takenMany v0_leftBits v0_hasPolynomial v0_hasLists w0_near w0_row) sz) := by
  refine Met.ofW (cc := prog_10_method_10_code) (maxL := 5) (ret := (some .boolean)) (by decide) rfl ?_
  intro p e s m args below meth c s₁ B hml hv
  obtain ⟨rfl, hsz, hP, hK, hD0, hNw⟩ := hv
  have hx := B.exec
  have hb := B.bytes
  have hr := B.returns
  have htt : ∀ w ∈ gtbl, w.before _ s = true := fun w h => atoms_spec (ws := us_Mo_fits) B.pre w (List.mem_cons_of_mem _ h)
  have hown : s.vm.findClass R_Mo = some m.cls := findClass_of_methodNamed B.named
  have hlocks := B.notSynchronized
  subst hsz
  have hD := hD0.self (sz := s.heap.size)
  generalize hAe : va_A (wd_Mo_fits cI cJ cG cZ a0 a0_from a0_to a0_near a0_lists a0_colours a0_shades a0_tints a0_attempt a0_taken a0_isApart a0_ways a0_next a0_splits a0_powers a0_row a0_many a0_can a0_could a0_arcRow a0_order a0_isOut v0_thrown v0_nodes v0_arcs v0_takenMany v0_leftBits v0_hasPolynomial v0_hasLists w0_near w0_row) s.heap.size = A at hD ⊢
  have hA : ∀ q : Nat, s.heap.size ≤ q → A q := fun q h => by rw [← hAe]; exact Or.inr h
  clear hAe hD0
  have hS : va_S A s.heap s.heap [] := va_S.rf
  have hl := lv_entry ([.ref a0, .int p1, .int p2]) (n := 5) (Nat.le_of_ble_eq_true rfl)
  rw [lg_entry_eq]
  generalize (lg_sl ([.ref a0, .int p1, .int p2]) ++ List.replicate (5 - (lg_sl ([.ref a0, .int p1, .int p2])).length) Slot.unset).toArray = ls at hl ⊢
  have hl : lv_has ls 5 [(0, .ref a0), (1, .int p1), (2, .int p2)] := hl
  generalize hH : s.heap = H at hP ⊢
  have hS : va_S A s.heap H [] := hH ▸ hS
  generalize hLo : ([] : List Loc) = locs at hS ⊢
  clear hH hLo
  unfold m_Mo_fits at hm
  refine lv_iconst (v := 1) hx hb d_Mo_fits_0 (by decide) ?_
  refine lv_istore_n (lv' := [(3, .int 1), (0, .ref a0), (1, .int p1), (2, .int p2)]) hx hb d_Mo_fits_1 rfl hl (by decide) rfl (fun ls hl => ?_)
  refine lv_iconst (v := 0) hx hb d_Mo_fits_2 (by decide) ?_
  refine lv_istore (lv' := [(4, .int 0), (3, .int 1), (0, .ref a0), (1, .int p1), (2, .int p2)]) hx hb d_Mo_fits_3 hl (by decide) rfl (fun ls hl => ?_)
  refine gL_e (P := (fun (z_5 : Int32 × Int32) => ∀ (x3_1 : Int32), ∀ (x4_2 : Int32), z_5 = (x3_1, x4_2) → ∀ (ls : Array Slot) (H : Heap) (locs : List Loc), lv_has ls 5 [(0, .ref a0), (1, .int p1), (2, .int p2), (3, .int x3_1), (4, .int x4_2)] → va_P (dC, dI) vwCl (wd_Mo_fits cI cJ cG cZ a0 a0_from a0_to a0_near a0_lists a0_colours a0_shades a0_tints a0_attempt a0_taken a0_isApart a0_ways a0_next a0_splits a0_powers a0_row a0_many a0_can a0_could a0_arcRow a0_order a0_isOut v0_thrown v0_nodes v0_arcs v0_takenMany v0_leftBits v0_hasPolynomial v0_hasLists w0_near w0_row) H → va_D A (wd_Mo_fits cI cJ cG cZ a0 a0_from a0_to a0_near a0_lists a0_colours a0_shades a0_tints a0_attempt a0_taken a0_isApart a0_ways a0_next a0_splits a0_powers a0_row a0_many a0_can a0_could a0_arcRow a0_order a0_isOut v0_thrown v0_nodes v0_arcs v0_takenMany v0_leftBits v0_hasPolynomial v0_hasLists w0_near w0_row) → va_S A s.heap H locs → W p l e (headSpec us_Mo_fits rm_Mo_fits).room s m ([.ref a0, .int p1, .int p2] : List Value).toArray below meth c H locs 0 0 (MQ below (va_Qi (fun (r : Int32) (_ : Unit) => ret = r ∧ bz r) (fun _ t => PoS (dC, dI) (tyL cI cJ cG cZ) (wd_Mo_fits cI cJ cG cZ a0 a0_from a0_to a0_near a0_lists a0_colours a0_shades a0_tints a0_attempt a0_taken a0_isApart a0_ways a0_next a0_splits a0_powers a0_row a0_many a0_can a0_could a0_arcRow a0_order a0_isOut v0_thrown v0_nodes v0_arcs v0_takenMany v0_leftBits v0_hasPolynomial v0_hasLists w0_near w0_row) A t) A) ([.ref a0, .int p1, .int p2] : List Value).toArray s 0 0 A) (F0 m 5 ls []))) hm (fun k_5 z_5 ih_5 hm => ?_) _ _ rfl ls H locs (lv_sub hl [2, 3, 4, 1, 0] rfl) hP hD hS
  intro x3_1 x4_2 hz ls H locs hl hP hD hS
  subst hz
  dsimp only at hm
  refine lv_iload hx hb d_Mo_fits_5 (lv_at hl 4 rfl) ?_
  refine lv_iload_n hx hb d_Mo_fits_7 rfl (lv_at hl 1 rfl) ?_
  refine lv_icmp_ge (tgt := 53) hx hb d_Mo_fits_8 (by decide) (fun c_3 => ?_) (fun c_3 => ?_)
  · have hm := ite_t c_3 hm
    refine lv_iload_n hx hb d_Mo_fits_53 rfl (lv_at hl 3 rfl) ?_
    obtain ⟨hz_4, hm⟩ := gC_e hm
    cases hm
    exact W.zret (ty := .boolean) hx hb hr (bz_nar (bzB_e hz_4)) (fun t ht hW => ⟨⟨_, (), rfl, ⟨rfl, (bzB_e hz_4)⟩, by rw [ht]; exact hP, va_K.moved hW.alike hK, hD⟩, hS.F ht⟩) hS.2.2 d_Mo_fits_54
  · have hm := ite_f c_3 hm
    refine lv_iload_n hx hb d_Mo_fits_11 rfl (lv_at hl 3 rfl) ?_
    refine lv_if_eq (tgt := 45) hx hb d_Mo_fits_12 (by decide) (fun c_5 => ?_) (fun c_5 => ?_)
    · have hm := ite_t c_5 hm
      refine lv_iconst (v := 0) hx hb d_Mo_fits_45 (by decide) ?_
      refine lv_istore_n (lv' := [(3, .int 0), (0, .ref a0), (1, .int p1), (2, .int p2), (4, .int x4_2)]) hx hb d_Mo_fits_46 rfl hl (by decide) rfl (fun ls hl => ?_)
      obtain ⟨x4_6, ex4_6⟩ : ∃ y : Int32, y = x4_2 + 1 := ⟨_, rfl⟩
      have hm := gB_at ex4_6 hm
      refine lv_iinc (v := x4_6) (lv' := [(4, .int x4_6), (3, .int 0), (0, .ref a0), (1, .int p1), (2, .int p2)]) hx hb d_Mo_fits_47 hl (k := 4) rfl (by rw [ex4_6]; rfl) (by decide) rfl (fun ls hl => ?_)
      refine lv_goto (tgt := 5) hx hb d_Mo_fits_50 (by decide) ?_
      exact ih_5 _ hm _ _ rfl ls H locs (lv_sub hl [2, 3, 4, 1, 0] rfl) hP hD hS
    · have hm := ite_f c_5 hm
      refine lv_aload_n hx hb d_Mo_fits_15 rfl (lv_at hl 0 rfl) ?_
      refine va_get (D := (dC, dI)) (ci := 8) (v := .ref a0_near) (C := R_Mo) (T := T_Mo) (N := 28) hx hb htt hin_Mo hown hK hP 0 rfl rfl 5 (by decide) (htt _ kt_774) (fun _ h9 => h9) rfl d_Mo_fits_16 ?_
      refine lv_iload_n hx hb d_Mo_fits_19 rfl (lv_at hl 1 rfl) ?_
      obtain ⟨hi_7, hm⟩ := gC_e hm
      refine va_iald hx hb hK hP 1 0 rfl rfl (inb_vp hi_7) d_Mo_fits_20 ?_
      refine lv_iload hx hb d_Mo_fits_21 (lv_at hl 4 rfl) ?_
      refine lv_ishr hx hb d_Mo_fits_23 ?_
      refine lv_iconst (v := 1) hx hb d_Mo_fits_24 (by decide) ?_
      refine lv_iand hx hb d_Mo_fits_25 ?_
      refine lv_iconst (v := 1) hx hb d_Mo_fits_26 (by decide) ?_
      obtain ⟨J_41, hJ_41, hm⟩ := gB_x hm
      have jp_41 : ∀ (ls : Array Slot) (H : Heap) (locs : List Loc), J_41 = some ret → lv_has ls 5 [(0, .ref a0), (1, .int p1), (2, .int p2), (4, .int x4_2)] → va_P (dC, dI) vwCl (wd_Mo_fits cI cJ cG cZ a0 a0_from a0_to a0_near a0_lists a0_colours a0_shades a0_tints a0_attempt a0_taken a0_isApart a0_ways a0_next a0_splits a0_powers a0_row a0_many a0_can a0_could a0_arcRow a0_order a0_isOut v0_thrown v0_nodes v0_arcs v0_takenMany v0_leftBits v0_hasPolynomial v0_hasLists w0_near w0_row) H → va_D A (wd_Mo_fits cI cJ cG cZ a0 a0_from a0_to a0_near a0_lists a0_colours a0_shades a0_tints a0_attempt a0_taken a0_isApart a0_ways a0_next a0_splits a0_powers a0_row a0_many a0_can a0_could a0_arcRow a0_order a0_isOut v0_thrown v0_nodes v0_arcs v0_takenMany v0_leftBits v0_hasPolynomial v0_hasLists w0_near w0_row) → va_S A s.heap H locs → W p l e (headSpec us_Mo_fits rm_Mo_fits).room s m ([.ref a0, .int p1, .int p2] : List Value).toArray below meth c H locs 0 0 (MQ below (va_Qi (fun (r : Int32) (_ : Unit) => ret = r ∧ bz r) (fun _ t => PoS (dC, dI) (tyL cI cJ cG cZ) (wd_Mo_fits cI cJ cG cZ a0 a0_from a0_to a0_near a0_lists a0_colours a0_shades a0_tints a0_attempt a0_taken a0_isApart a0_ways a0_next a0_splits a0_powers a0_row a0_many a0_can a0_could a0_arcRow a0_order a0_isOut v0_thrown v0_nodes v0_arcs v0_takenMany v0_leftBits v0_hasPolynomial v0_hasLists w0_near w0_row) A t) A) ([.ref a0, .int p1, .int p2] : List Value).toArray s 0 0 A) (F0 m 41 ls []) := by
        intro ls H locs hm hl hP hD hS
        have hm := jn0 hJ_41 hm
        refine lv_iconst (v := 1) hx hb d_Mo_fits_41 (by decide) ?_
        refine lv_goto (tgt := 46) hx hb d_Mo_fits_42 (by decide) ?_
        refine lv_istore_n (lv' := [(3, .int 1), (0, .ref a0), (1, .int p1), (2, .int p2), (4, .int x4_2)]) hx hb d_Mo_fits_46 rfl hl (by decide) rfl (fun ls hl => ?_)
        obtain ⟨x4_8, ex4_8⟩ : ∃ y : Int32, y = x4_2 + 1 := ⟨_, rfl⟩
        have hm := gB_at ex4_8 hm
        refine lv_iinc (v := x4_8) (lv' := [(4, .int x4_8), (3, .int 1), (0, .ref a0), (1, .int p1), (2, .int p2)]) hx hb d_Mo_fits_47 hl (k := 4) rfl (by rw [ex4_8]; rfl) (by decide) rfl (fun ls hl => ?_)
        refine lv_goto (tgt := 5) hx hb d_Mo_fits_50 (by decide) ?_
        exact ih_5 _ hm _ _ rfl ls H locs (lv_sub hl [2, 3, 4, 1, 0] rfl) hP hD hS
      clear hJ_41
      refine lv_icmp_ne (tgt := 41) hx hb d_Mo_fits_27 (by decide) (fun c_9 => ?_) (fun c_9 => ?_)
      · have hm := ite_f c_9 hm
        exact jp_41 ls H locs hm (lv_sub hl [0, 1, 2, 4] rfl) hP hD hS
      · have hm := ite_t c_9 hm
        refine lv_aload_n hx hb d_Mo_fits_30 rfl (lv_at hl 0 rfl) ?_
        refine va_get (D := (dC, dI)) (ci := 8) (v := .ref a0_row) (C := R_Mo) (T := T_Mo) (N := 28) hx hb htt hin_Mo hown hK hP 0 rfl rfl 19 (by decide) (htt _ kt_788) (fun _ h9 => h9) rfl d_Mo_fits_31 ?_
        refine lv_iload hx hb d_Mo_fits_34 (lv_at hl 4 rfl) ?_
        obtain ⟨hi_10, hm⟩ := gC_e hm
        refine va_iald hx hb hK hP 2 0 rfl rfl (inb_vp hi_10) d_Mo_fits_36 ?_
        refine lv_iload_n hx hb d_Mo_fits_37 rfl (lv_at hl 2 rfl) ?_
        refine lv_icmp_eq (tgt := 45) hx hb d_Mo_fits_38 (by decide) (fun c_11 => ?_) (fun c_11 => ?_)
        · have hm := ite_t c_11 hm
          refine lv_iconst (v := 0) hx hb d_Mo_fits_45 (by decide) ?_
          refine lv_istore_n (lv' := [(3, .int 0), (0, .ref a0), (1, .int p1), (2, .int p2), (4, .int x4_2)]) hx hb d_Mo_fits_46 rfl hl (by decide) rfl (fun ls hl => ?_)
          obtain ⟨x4_12, ex4_12⟩ : ∃ y : Int32, y = x4_2 + 1 := ⟨_, rfl⟩
          have hm := gB_at ex4_12 hm
          refine lv_iinc (v := x4_12) (lv' := [(4, .int x4_12), (3, .int 0), (0, .ref a0), (1, .int p1), (2, .int p2)]) hx hb d_Mo_fits_47 hl (k := 4) rfl (by rw [ex4_12]; rfl) (by decide) rfl (fun ls hl => ?_)
          refine lv_goto (tgt := 5) hx hb d_Mo_fits_50 (by decide) ?_
          exact ih_5 _ hm _ _ rfl ls H locs (lv_sub hl [2, 3, 4, 1, 0] rfl) hP hD hS
        · have hm := ite_f c_11 hm
          exact jp_41 ls H locs hm (lv_sub hl [0, 1, 2, 4] rfl) hP hD hS
theorem d_Mo_isEven_0 : decode prog_10_method_11_code 0 = .ok (.aload_n 0, 1) := by decide +kernel
theorem d_Mo_isEven_1 : decode prog_10_method_11_code 1 = .ok (.getfield 86, 3) := by decide +kernel
theorem d_Mo_isEven_4 : decode prog_10_method_11_code 4 = .ok (.iload_n 2, 1) := by decide +kernel
theorem d_Mo_isEven_5 : decode prog_10_method_11_code 5 = .ok (.idiv, 1) := by decide +kernel
theorem d_Mo_isEven_6 : decode prog_10_method_11_code 6 = .ok (.istore_n 3, 1) := by decide +kernel
theorem d_Mo_isEven_7 : decode prog_10_method_11_code 7 = .ok (.aload_n 0, 1) := by decide +kernel
theorem d_Mo_isEven_8 : decode prog_10_method_11_code 8 = .ok (.getfield 86, 3) := by decide +kernel
theorem d_Mo_isEven_11 : decode prog_10_method_11_code 11 = .ok (.iload_n 2, 1) := by decide +kernel
theorem d_Mo_isEven_12 : decode prog_10_method_11_code 12 = .ok (.irem, 1) := by decide +kernel
theorem d_Mo_isEven_13 : decode prog_10_method_11_code 13 = .ok (.istore 4, 2) := by decide +kernel
theorem d_Mo_isEven_15 : decode prog_10_method_11_code 15 = .ok (.iconst 0, 1) := by decide +kernel
theorem d_Mo_isEven_16 : decode prog_10_method_11_code 16 = .ok (.istore 5, 2) := by decide +kernel
theorem d_Mo_isEven_18 : decode prog_10_method_11_code 18 = .ok (.iconst 0, 1) := by decide +kernel
theorem d_Mo_isEven_19 : decode prog_10_method_11_code 19 = .ok (.istore 6, 2) := by decide +kernel
theorem d_Mo_isEven_21 : decode prog_10_method_11_code 21 = .ok (.iload 6, 2) := by decide +kernel
theorem d_Mo_isEven_23 : decode prog_10_method_11_code 23 = .ok (.iload_n 2, 1) := by decide +kernel
theorem d_Mo_isEven_24 : decode prog_10_method_11_code 24 = .ok (.if_icmp .ge 30, 3) := by decide +kernel
theorem d_Mo_isEven_27 : decode prog_10_method_11_code 27 = .ok (.iload 5, 2) := by decide +kernel
theorem d_Mo_isEven_29 : decode prog_10_method_11_code 29 = .ok (.aload_n 0, 1) := by decide +kernel
theorem d_Mo_isEven_30 : decode prog_10_method_11_code 30 = .ok (.getfield 58, 3) := by decide +kernel
theorem d_Mo_isEven_33 : decode prog_10_method_11_code 33 = .ok (.iload 6, 2) := by decide +kernel
theorem d_Mo_isEven_35 : decode prog_10_method_11_code 35 = .ok (.iaload, 1) := by decide +kernel
theorem d_Mo_isEven_36 : decode prog_10_method_11_code 36 = .ok (.iload_n 3, 1) := by decide +kernel
theorem d_Mo_isEven_37 : decode prog_10_method_11_code 37 = .ok (.if_icmp .le 7, 3) := by decide +kernel
theorem d_Mo_isEven_40 : decode prog_10_method_11_code 40 = .ok (.iconst 1, 1) := by decide +kernel
theorem d_Mo_isEven_41 : decode prog_10_method_11_code 41 = .ok (.goto 4, 3) := by decide +kernel
theorem d_Mo_isEven_44 : decode prog_10_method_11_code 44 = .ok (.iconst 0, 1) := by decide +kernel
theorem d_Mo_isEven_45 : decode prog_10_method_11_code 45 = .ok (.iadd, 1) := by decide +kernel
theorem d_Mo_isEven_46 : decode prog_10_method_11_code 46 = .ok (.istore 5, 2) := by decide +kernel
theorem d_Mo_isEven_48 : decode prog_10_method_11_code 48 = .ok (.iinc 6 1, 3) := by decide +kernel
theorem d_Mo_isEven_51 : decode prog_10_method_11_code 51 = .ok (.goto (-30), 3) := by decide +kernel
theorem d_Mo_isEven_54 : decode prog_10_method_11_code 54 = .ok (.aload_n 0, 1) := by decide +kernel
theorem d_Mo_isEven_55 : decode prog_10_method_11_code 55 = .ok (.getfield 58, 3) := by decide +kernel
theorem d_Mo_isEven_58 : decode prog_10_method_11_code 58 = .ok (.iload_n 1, 1) := by decide +kernel
theorem d_Mo_isEven_59 : decode prog_10_method_11_code 59 = .ok (.iaload, 1) := by decide +kernel
theorem d_Mo_isEven_60 : decode prog_10_method_11_code 60 = .ok (.iload_n 3, 1) := by decide +kernel
theorem d_Mo_isEven_61 : decode prog_10_method_11_code 61 = .ok (.if_icmp .lt 20, 3) := by decide +kernel
theorem d_Mo_isEven_64 : decode prog_10_method_11_code 64 = .ok (.aload_n 0, 1) := by decide +kernel
theorem d_Mo_isEven_65 : decode prog_10_method_11_code 65 = .ok (.getfield 58, 3) := by decide +kernel
theorem d_Mo_isEven_68 : decode prog_10_method_11_code 68 = .ok (.iload_n 1, 1) := by decide +kernel
theorem d_Mo_isEven_69 : decode prog_10_method_11_code 69 = .ok (.iaload, 1) := by decide +kernel
theorem d_Mo_isEven_70 : decode prog_10_method_11_code 70 = .ok (.iload_n 3, 1) := by decide +kernel
theorem d_Mo_isEven_71 : decode prog_10_method_11_code 71 = .ok (.if_icmp .ne 14, 3) := by decide +kernel
theorem d_Mo_isEven_74 : decode prog_10_method_11_code 74 = .ok (.iload 5, 2) := by decide +kernel
theorem d_Mo_isEven_76 : decode prog_10_method_11_code 76 = .ok (.iload 4, 2) := by decide +kernel
theorem d_Mo_isEven_78 : decode prog_10_method_11_code 78 = .ok (.if_icmp .ge 7, 3) := by decide +kernel
theorem d_Mo_isEven_81 : decode prog_10_method_11_code 81 = .ok (.iconst 1, 1) := by decide +kernel
theorem d_Mo_isEven_82 : decode prog_10_method_11_code 82 = .ok (.goto 4, 3) := by decide +kernel
theorem d_Mo_isEven_85 : decode prog_10_method_11_code 85 = .ok (.iconst 0, 1) := by decide +kernel
theorem d_Mo_isEven_86 : decode prog_10_method_11_code 86 = .ok (.ireturn, 1) := by decide +kernel
abbrev wd_Mo_isEven (cI cJ cG cZ : ClassId) (a0 a0_from a0_to a0_near a0_lists a0_colours a0_shades a0_tints a0_attempt a0_taken a0_isApart a0_ways a0_next a0_splits a0_powers a0_row a0_many a0_can a0_could a0_arcRow a0_order a0_isOut : Nat) (v0_thrown : Int32) (v0_nodes : Int32) (v0_arcs : Int32) (v0_takenMany : Int32) (v0_leftBits : Int32) (v0_hasPolynomial : Int32) (v0_hasLists : Int32) (w0_many : Nat → Int32) : va_W := [(a0, .inr (8, [.int v0_thrown, .int v0_nodes, .int v0_arcs, .ref a0_from, .ref a0_to, .ref a0_near, .ref a0_lists, .ref a0_colours, .ref a0_shades, .ref a0_tints, .ref a0_attempt, .int v0_takenMany, .ref a0_taken, .int v0_leftBits, .ref a0_isApart, .ref a0_ways, .ref a0_next, .ref a0_splits, .ref a0_powers, .ref a0_row, .ref a0_many, .int v0_hasPolynomial, .int v0_hasLists, .ref a0_can, .ref a0_could, .ref a0_arcRow, .ref a0_order, .ref a0_isOut])), (a0_many, .inl (cI, 12, .inl w0_many))]
abbrev us_Mo_isEven : List Cond := .code y_Mo_isEven prog_10_method_11_code 7 (some .boolean) :: gtbl
abbrev rm_Mo_isEven : Room := { frames := 0, cells := 0, slots := 0, locals := 0 }
def m_Mo_isEven (F : Nat) (v0_thrown : Int32) (v0_nodes : Int32) (v0_arcs : Int32) (v0_takenMany : Int32) (v0_leftBits : Int32) (v0_hasPolynomial : Int32) (v0_hasLists : Int32) (w0_many : Nat → Int32) (p1 : Int32) (p2 : Int32) : Option (Int32) :=
  gC (decide (¬ p2 = 0)) (
  gB (v0_nodes / p2) (fun x3_2 =>
  gC (decide (¬ p2 = 0)) (
  gB (v0_nodes - v0_nodes / p2 * p2) (fun x4_4 =>
  gL (fun (k_21 : (Int32 × Int32) → Option (Int32)) (z_21 : Int32 × Int32) => match z_21 with
  | (x5_5, x6_6) =>
  if p2 ≤ x6_6 then (
    gC (inb p1 12) (
    gB (α := Option (Int32)) (
      some 1
    ) (fun J_81 =>
    if (w0_many p1.toNatClampNeg) < x3_2 then (
      J_81
    ) else (
      gC (inb p1 12) (
      if (w0_many p1.toNatClampNeg) = x3_2 then (
        if x4_4 ≤ x5_5 then (
          some 0
        ) else (
          J_81
        )
      ) else (
        some 0
      ))
    )
    ))
  ) else (
    gC (inb x6_6 12) (
    if (w0_many x6_6.toNatClampNeg) ≤ x3_2 then (
      gB (x5_5 + 0) (fun x5_15 =>
      gB (x6_6 + 1) (fun x6_16 =>
      k_21 (x5_15, x6_16)))
    ) else (
      gB (x5_5 + 1) (fun x5_17 =>
      gB (x6_6 + 1) (fun x6_18 =>
      k_21 (x5_17, x6_18)))
    ))
  )
  ) F (0, 0)))))
set_option maxHeartbeats 4000000 in
set_option maxRecDepth 100000 in
theorem c_Mo_isEven (l : Launch) (dC : Nat → ClassId) (dI : Nat → Nat → Nat) (cI cJ cG cZ : ClassId) (a0 a0_from a0_to a0_near a0_lists a0_colours a0_shades a0_tints a0_attempt a0_taken a0_isApart a0_ways a0_next a0_splits a0_powers a0_row a0_many a0_can a0_could a0_arcRow a0_order a0_isOut : Nat) (sz : Nat) (F : Nat) (v0_thrown : Int32) (v0_nodes : Int32) (v0_arcs : Int32) (v0_takenMany : Int32) (v0_leftBits : Int32) (v0_hasPolynomial : Int32) (v0_hasLists : Int32) (w0_many : Nat → Int32) (p1 : Int32) (p2 : Int32) (ret : Int32) (hm : m_Mo_isEven F v0_thrown v0_nodes v0_arcs v0_takenMany v0_leftBits v0_hasPolynomial v0_hasLists w0_many p1 p2 = some ret) : Met l y_Mo_isEven us_Mo_isEven rm_Mo_isEven (PcS (dC, dI) (tyL cI cJ cG cZ) [.ref a0, .int p1, .int p2] sz (wd_Mo_isEven cI cJ cG cZ a0 a0_from a0_to a0_near a0_lists a0_colours a0_shades a0_tints a0_attempt a0_taken a0_isApart a0_ways a0_next a0_splits a0_powers a0_row a0_many a0_can a0_could a0_arcRow a0_order a0_isOut v0_thrown v0_nodes v0_arcs v0_takenMany v0_leftBits v0_hasPolynomial v0_hasLists w0_many)) (va_Qi (fun (r : Int32) (_ : Unit) => ret = r ∧ bz r) (fun _ t => PoS (dC, dI) (tyL cI cJ cG cZ) (wd_Mo_isEven cI cJ cG cZ a0 a0_from a0_to a0_near a0_lists a0_colours a0_shades a0_tints a0_attempt a0_taken a0_isApart a0_ways a0_next a0_splits a0_powers a0_row a0_many a0_can a0_could a0_arcRow a0_order a0_isOut v0_thrown v0_nodes v0_arcs v0_takenMany v0_leftBits v0_hasPolynomial v0_hasLists w0_many) (va_A (wd_Mo_isEven cI cJ cG cZ a0 a0_from a0_to a0_near a0_lists a0_colours a0_shades a0_tints a0_attempt a0_taken a0_isApart a0_ways a0_next a0_splits a0_powers a0_row a0_many a0_can a0_could a0_arcRow a0_order a0_isOut v0_thrown v0_nodes v0_arcs v0_takenMany v0_leftBits v0_hasPolynomial v0_hasLists w0_many) sz) t) (va_A (wd_Mo_isEven cI cJ cG cZ a0 a0_from a0_to a0_near a0_lists a0_colours a0_shades a0_tints a0_attempt a0_taken a0_isApart a0_ways a0_next a0_splits a0_powers a0_row a0_many a0_can a0_could a0_arcRow a0_order a0_isOut v0_thrown v0_nodes v0_arcs v0_takenMany v0_leftBits v0_hasPolynomial v0_hasLists w0_many) sz)) 0 0 (va_A (wd_Mo_isEven cI cJ cG cZ a0 a0_from a0_to a0_near a0_lists a0_colours a0_shades a0_tints a0_attempt a0_taken a0_isApart a0_ways a0_next a0_splits a0_powers a0_row a0_many a0_can a0_could a0_arcRow a0_order a0_isOut v0_thrown v0_nodes v0_arcs v0_takenMany v0_leftBits v0_hasPolynomial v0_hasLists w0_many) sz) := by
  refine Met.ofW (cc := prog_10_method_11_code) (maxL := 7) (ret := (some .boolean)) (by decide) rfl ?_
  intro p e s m args below meth c s₁ B hml hv
  obtain ⟨rfl, hsz, hP, hK, hD0, hNw⟩ := hv
  have hx := B.exec
  have hb := B.bytes
  have hr := B.returns
  have htt : ∀ w ∈ gtbl, w.before _ s = true := fun w h => atoms_spec (ws := us_Mo_isEven) B.pre w (List.mem_cons_of_mem _ h)
  have hown : s.vm.findClass R_Mo = some m.cls := findClass_of_methodNamed B.named
  have hlocks := B.notSynchronized
  subst hsz
  have hD := hD0.self (sz := s.heap.size)
  generalize hAe : va_A (wd_Mo_isEven cI cJ cG cZ a0 a0_from a0_to a0_near a0_lists a0_colours a0_shades a0_tints a0_attempt a0_taken a0_isApart a0_ways a0_next a0_splits a0_powers a0_row a0_many a0_can a0_could a0_arcRow a0_order a0_isOut v0_thrown v0_nodes v0_arcs v0_takenMany v0_leftBits v0_hasPolynomial v0_hasLists w0_many) s.heap.size = A at hD ⊢
  have hA : ∀ q : Nat, s.heap.size ≤ q → A q := fun q h => by rw [← hAe]; exact Or.inr h
  clear hAe hD0
  have hS : va_S A s.heap s.heap [] := va_S.rf
  have hl := lv_entry ([.ref a0, .int p1, .int p2]) (n := 7) (Nat.le_of_ble_eq_true rfl)
  rw [lg_entry_eq]
  generalize (lg_sl ([.ref a0, .int p1, .int p2]) ++ List.replicate (7 - (lg_sl ([.ref a0, .int p1, .int p2])).length) Slot.unset).toArray = ls at hl ⊢
  have hl : lv_has ls 7 [(0, .ref a0), (1, .int p1), (2, .int p2)] := hl
  generalize hH : s.heap = H at hP ⊢
  have hS : va_S A s.heap H [] := hH ▸ hS
  generalize hLo : ([] : List Loc) = locs at hS ⊢
  clear hH hLo
  unfold m_Mo_isEven at hm
  refine lv_aload_n hx hb d_Mo_isEven_0 rfl (lv_at hl 0 rfl) ?_
  refine va_get (D := (dC, dI)) (ci := 8) (v := .int v0_nodes) (C := R_Mo) (T := T_Mo) (N := 28) hx hb htt hin_Mo hown hK hP 0 rfl rfl 1 (by decide) (htt _ kt_770) (fun _ h9 => h9) rfl d_Mo_isEven_1 ?_
  refine lv_iload_n hx hb d_Mo_isEven_4 rfl (lv_at hl 2 rfl) ?_
  obtain ⟨hn_1, hm⟩ := gC_e hm
  refine lv_idiv hx hb d_Mo_isEven_5 (of_decide_eq_true hn_1) ?_
  refine lv_topi (fun x3_2 ex3_2 => ?_)
  have hm := gB_at ex3_2 hm
  refine lv_istore_n (lv' := [(3, .int x3_2), (0, .ref a0), (1, .int p1), (2, .int p2)]) hx hb d_Mo_isEven_6 rfl hl (by decide) rfl (fun ls hl => ?_)
  refine lv_aload_n hx hb d_Mo_isEven_7 rfl (lv_at hl 1 rfl) ?_
  refine va_get (D := (dC, dI)) (ci := 8) (v := .int v0_nodes) (C := R_Mo) (T := T_Mo) (N := 28) hx hb htt hin_Mo hown hK hP 0 rfl rfl 1 (by decide) (htt _ kt_770) (fun _ h9 => h9) rfl d_Mo_isEven_8 ?_
  refine lv_iload_n hx hb d_Mo_isEven_11 rfl (lv_at hl 3 rfl) ?_
  obtain ⟨hn_3, hm⟩ := gC_e hm
  refine lv_irem hx hb d_Mo_isEven_12 (of_decide_eq_true hn_3) ?_
  refine lv_topi (fun x4_4 ex4_4 => ?_)
  have hm := gB_at ex4_4 hm
  refine lv_istore (lv' := [(4, .int x4_4), (3, .int x3_2), (0, .ref a0), (1, .int p1), (2, .int p2)]) hx hb d_Mo_isEven_13 hl (by decide) rfl (fun ls hl => ?_)
  refine lv_iconst (v := 0) hx hb d_Mo_isEven_15 (by decide) ?_
  refine lv_istore (lv' := [(5, .int 0), (4, .int x4_4), (3, .int x3_2), (0, .ref a0), (1, .int p1), (2, .int p2)]) hx hb d_Mo_isEven_16 hl (by decide) rfl (fun ls hl => ?_)
  refine lv_iconst (v := 0) hx hb d_Mo_isEven_18 (by decide) ?_
  refine lv_istore (lv' := [(6, .int 0), (5, .int 0), (4, .int x4_4), (3, .int x3_2), (0, .ref a0), (1, .int p1), (2, .int p2)]) hx hb d_Mo_isEven_19 hl (by decide) rfl (fun ls hl => ?_)
  refine gL_e (P := (fun (z_21 : Int32 × Int32) => ∀ (x5_5 : Int32), ∀ (x6_6 : Int32), z_21 = (x5_5, x6_6) → ∀ (ls : Array Slot) (H : Heap) (locs : List Loc), lv_has ls 7 [(0, .ref a0), (1, .int p1), (2, .int p2), (3, .int x3_2), (4, .int x4_4), (5, .int x5_5), (6, .int x6_6)] → va_P (dC, dI) vwCl (wd_Mo_isEven cI cJ cG cZ a0 a0_from a0_to a0_near a0_lists a0_colours a0_shades a0_tints a0_attempt a0_taken a0_isApart a0_ways a0_next a0_splits a0_powers a0_row a0_many a0_can a0_could a0_arcRow a0_order a0_isOut v0_thrown v0_nodes v0_arcs v0_takenMany v0_leftBits v0_hasPolynomial v0_hasLists w0_many) H → va_D A (wd_Mo_isEven cI cJ cG cZ a0 a0_from a0_to a0_near a0_lists a0_colours a0_shades a0_tints a0_attempt a0_taken a0_isApart a0_ways a0_next a0_splits a0_powers a0_row a0_many a0_can a0_could a0_arcRow a0_order a0_isOut v0_thrown v0_nodes v0_arcs v0_takenMany v0_leftBits v0_hasPolynomial v0_hasLists w0_many) → va_S A s.heap H locs → W p l e (headSpec us_Mo_isEven rm_Mo_isEven).room s m ([.ref a0, .int p1, .int p2] : List Value).toArray below meth c H locs 0 0 (MQ below (va_Qi (fun (r : Int32) (_ : Unit) => ret = r ∧ bz r) (fun _ t => PoS (dC, dI) (tyL cI cJ cG cZ) (wd_Mo_isEven cI cJ cG cZ a0 a0_from a0_to a0_near a0_lists a0_colours a0_shades a0_tints a0_attempt a0_taken a0_isApart a0_ways a0_next a0_splits a0_powers a0_row a0_many a0_can a0_could a0_arcRow a0_order a0_isOut v0_thrown v0_nodes v0_arcs v0_takenMany v0_leftBits v0_hasPolynomial v0_hasLists w0_many) A t) A) ([.ref a0, .int p1, .int p2] : List Value).toArray s 0 0 A) (F0 m 21 ls []))) hm (fun k_21 z_21 ih_21 hm => ?_) _ _ rfl ls H locs (lv_sub hl [4, 5, 6, 3, 2, 1, 0] rfl) hP hD hS
  intro x5_5 x6_6 hz ls H locs hl hP hD hS
  subst hz
  dsimp only at hm
  refine lv_iload hx hb d_Mo_isEven_21 (lv_at hl 6 rfl) ?_
  refine lv_iload_n hx hb d_Mo_isEven_23 rfl (lv_at hl 2 rfl) ?_
  refine lv_icmp_ge (tgt := 54) hx hb d_Mo_isEven_24 (by decide) (fun c_7 => ?_) (fun c_7 => ?_)
  · have hm := ite_t c_7 hm
    refine lv_aload_n hx hb d_Mo_isEven_54 rfl (lv_at hl 0 rfl) ?_
    refine va_get (D := (dC, dI)) (ci := 8) (v := .ref a0_many) (C := R_Mo) (T := T_Mo) (N := 28) hx hb htt hin_Mo hown hK hP 0 rfl rfl 20 (by decide) (htt _ kt_789) (fun _ h9 => h9) rfl d_Mo_isEven_55 ?_
    refine lv_iload_n hx hb d_Mo_isEven_58 rfl (lv_at hl 1 rfl) ?_
    obtain ⟨hi_8, hm⟩ := gC_e hm
    refine va_iald hx hb hK hP 1 0 rfl rfl (inb_vp hi_8) d_Mo_isEven_59 ?_
    refine lv_iload_n hx hb d_Mo_isEven_60 rfl (lv_at hl 3 rfl) ?_
    obtain ⟨J_81, hJ_81, hm⟩ := gB_x hm
    have jp_81 : ∀ (ls : Array Slot) (H : Heap) (locs : List Loc), J_81 = some ret → lv_has ls 7 [] → va_P (dC, dI) vwCl (wd_Mo_isEven cI cJ cG cZ a0 a0_from a0_to a0_near a0_lists a0_colours a0_shades a0_tints a0_attempt a0_taken a0_isApart a0_ways a0_next a0_splits a0_powers a0_row a0_many a0_can a0_could a0_arcRow a0_order a0_isOut v0_thrown v0_nodes v0_arcs v0_takenMany v0_leftBits v0_hasPolynomial v0_hasLists w0_many) H → va_D A (wd_Mo_isEven cI cJ cG cZ a0 a0_from a0_to a0_near a0_lists a0_colours a0_shades a0_tints a0_attempt a0_taken a0_isApart a0_ways a0_next a0_splits a0_powers a0_row a0_many a0_can a0_could a0_arcRow a0_order a0_isOut v0_thrown v0_nodes v0_arcs v0_takenMany v0_leftBits v0_hasPolynomial v0_hasLists w0_many) → va_S A s.heap H locs → W p l e (headSpec us_Mo_isEven rm_Mo_isEven).room s m ([.ref a0, .int p1, .int p2] : List Value).toArray below meth c H locs 0 0 (MQ below (va_Qi (fun (r : Int32) (_ : Unit) => ret = r ∧ bz r) (fun _ t => PoS (dC, dI) (tyL cI cJ cG cZ) (wd_Mo_isEven cI cJ cG cZ a0 a0_from a0_to a0_near a0_lists a0_colours a0_shades a0_tints a0_attempt a0_taken a0_isApart a0_ways a0_next a0_splits a0_powers a0_row a0_many a0_can a0_could a0_arcRow a0_order a0_isOut v0_thrown v0_nodes v0_arcs v0_takenMany v0_leftBits v0_hasPolynomial v0_hasLists w0_many) A t) A) ([.ref a0, .int p1, .int p2] : List Value).toArray s 0 0 A) (F0 m 81 ls []) := by
      intro ls H locs hm hl hP hD hS
      have hm := jn0 hJ_81 hm
      refine lv_iconst (v := 1) hx hb d_Mo_isEven_81 (by decide) ?_
      refine lv_goto (tgt := 86) hx hb d_Mo_isEven_82 (by decide) ?_
      cases hm
      exact W.zret (ty := .boolean) hx hb hr (bz_nar (by decide : bz 1)) (fun t ht hW => ⟨⟨_, (), rfl, ⟨rfl, (by decide : bz 1)⟩, by rw [ht]; exact hP, va_K.moved hW.alike hK, hD⟩, hS.F ht⟩) hS.2.2 d_Mo_isEven_86
    clear hJ_81
    refine lv_icmp_lt (tgt := 81) hx hb d_Mo_isEven_61 (by decide) (fun c_9 => ?_) (fun c_9 => ?_)
    · have hm := ite_t c_9 hm
      exact jp_81 ls H locs hm (lv_sub hl [] rfl) hP hD hS
    · have hm := ite_f c_9 hm
      refine lv_aload_n hx hb d_Mo_isEven_64 rfl (lv_at hl 0 rfl) ?_
      refine va_get (D := (dC, dI)) (ci := 8) (v := .ref a0_many) (C := R_Mo) (T := T_Mo) (N := 28) hx hb htt hin_Mo hown hK hP 0 rfl rfl 20 (by decide) (htt _ kt_789) (fun _ h9 => h9) rfl d_Mo_isEven_65 ?_
      refine lv_iload_n hx hb d_Mo_isEven_68 rfl (lv_at hl 1 rfl) ?_
      obtain ⟨hi_10, hm⟩ := gC_e hm
      refine va_iald hx hb hK hP 1 0 rfl rfl (inb_vp hi_10) d_Mo_isEven_69 ?_
      refine lv_iload_n hx hb d_Mo_isEven_70 rfl (lv_at hl 3 rfl) ?_
      refine lv_icmp_ne (tgt := 85) hx hb d_Mo_isEven_71 (by decide) (fun c_11 => ?_) (fun c_11 => ?_)
      · have hm := ite_f c_11 hm
        refine lv_iconst (v := 0) hx hb d_Mo_isEven_85 (by decide) ?_
        cases hm
        exact W.zret (ty := .boolean) hx hb hr (bz_nar (by decide : bz 0)) (fun t ht hW => ⟨⟨_, (), rfl, ⟨rfl, (by decide : bz 0)⟩, by rw [ht]; exact hP, va_K.moved hW.alike hK, hD⟩, hS.F ht⟩) hS.2.2 d_Mo_isEven_86
      · have hm := ite_t c_11 hm
        refine lv_iload hx hb d_Mo_isEven_74 (lv_at hl 5 rfl) ?_
        refine lv_iload hx hb d_Mo_isEven_76 (lv_at hl 4 rfl) ?_
        refine lv_icmp_ge (tgt := 85) hx hb d_Mo_isEven_78 (by decide) (fun c_12 => ?_) (fun c_12 => ?_)
        · have hm := ite_t c_12 hm
          refine lv_iconst (v := 0) hx hb d_Mo_isEven_85 (by decide) ?_
          cases hm
          exact W.zret (ty := .boolean) hx hb hr (bz_nar (by decide : bz 0)) (fun t ht hW => ⟨⟨_, (), rfl, ⟨rfl, (by decide : bz 0)⟩, by rw [ht]; exact hP, va_K.moved hW.alike hK, hD⟩, hS.F ht⟩) hS.2.2 d_Mo_isEven_86
        · have hm := ite_f c_12 hm
          exact jp_81 ls H locs hm (lv_sub hl [] rfl) hP hD hS
  · have hm := ite_f c_7 hm
    refine lv_iload hx hb d_Mo_isEven_27 (lv_at hl 5 rfl) ?_
    refine lv_aload_n hx hb d_Mo_isEven_29 rfl (lv_at hl 0 rfl) ?_
    refine va_get (D := (dC, dI)) (ci := 8) (v := .ref a0_many) (C := R_Mo) (T := T_Mo) (N := 28) hx hb htt hin_Mo hown hK hP 0 rfl rfl 20 (by decide) (htt _ kt_789) (fun _ h9 => h9) rfl d_Mo_isEven_30 ?_
    refine lv_iload hx hb d_Mo_isEven_33 (lv_at hl 6 rfl) ?_
    obtain ⟨hi_13, hm⟩ := gC_e hm
    refine va_iald hx hb hK hP 1 0 rfl rfl (inb_vp hi_13) d_Mo_isEven_35 ?_
    refine lv_iload_n hx hb d_Mo_isEven_36 rfl (lv_at hl 3 rfl) ?_
    refine lv_icmp_le (tgt := 44) hx hb d_Mo_isEven_37 (by decide) (fun c_14 => ?_) (fun c_14 => ?_)
    · have hm := ite_t c_14 hm
      refine lv_iconst (v := 0) hx hb d_Mo_isEven_44 (by decide) ?_
      refine lv_iadd hx hb d_Mo_isEven_45 ?_
      refine lv_topi (fun x5_15 ex5_15 => ?_)
      have hm := gB_at ex5_15 hm
      refine lv_istore (lv' := [(5, .int x5_15), (0, .ref a0), (1, .int p1), (2, .int p2), (3, .int x3_2), (4, .int x4_4), (6, .int x6_6)]) hx hb d_Mo_isEven_46 hl (by decide) rfl (fun ls hl => ?_)
      obtain ⟨x6_16, ex6_16⟩ : ∃ y : Int32, y = x6_6 + 1 := ⟨_, rfl⟩
      have hm := gB_at ex6_16 hm
      refine lv_iinc (v := x6_16) (lv' := [(6, .int x6_16), (5, .int x5_15), (0, .ref a0), (1, .int p1), (2, .int p2), (3, .int x3_2), (4, .int x4_4)]) hx hb d_Mo_isEven_48 hl (k := 6) rfl (by rw [ex6_16]; rfl) (by decide) rfl (fun ls hl => ?_)
      refine lv_goto (tgt := 21) hx hb d_Mo_isEven_51 (by decide) ?_
      exact ih_21 _ hm _ _ rfl ls H locs (lv_sub hl [2, 3, 4, 5, 6, 1, 0] rfl) hP hD hS
    · have hm := ite_f c_14 hm
      refine lv_iconst (v := 1) hx hb d_Mo_isEven_40 (by decide) ?_
      refine lv_goto (tgt := 45) hx hb d_Mo_isEven_41 (by decide) ?_
      refine lv_iadd hx hb d_Mo_isEven_45 ?_
      refine lv_topi (fun x5_17 ex5_17 => ?_)
      have hm := gB_at ex5_17 hm
      refine lv_istore (lv' := [(5, .int x5_17), (0, .ref a0), (1, .int p1), (2, .int p2), (3, .int x3_2), (4, .int x4_4), (6, .int x6_6)]) hx hb d_Mo_isEven_46 hl (by decide) rfl (fun ls hl => ?_)
      obtain ⟨x6_18, ex6_18⟩ : ∃ y : Int32, y = x6_6 + 1 := ⟨_, rfl⟩
      have hm := gB_at ex6_18 hm
      refine lv_iinc (v := x6_18) (lv' := [(6, .int x6_18), (5, .int x5_17), (0, .ref a0), (1, .int p1), (2, .int p2), (3, .int x3_2), (4, .int x4_4)]) hx hb d_Mo_isEven_48 hl (k := 6) rfl (by rw [ex6_18]; rfl) (by decide) rfl (fun ls hl => ?_)
      refine lv_goto (tgt := 21) hx hb d_Mo_isEven_51 (by decide) ?_
      exact ih_21 _ hm _ _ rfl ls H locs (lv_sub hl [2, 3, 4, 5, 6, 1, 0] rfl) hP hD hS
theorem d_Mo_isNewTwice_0 : decode prog_10_method_13_code 0 = .ok (.iconst 0, 1) := by decide +kernel
theorem d_Mo_isNewTwice_1 : decode prog_10_method_13_code 1 = .ok (.istore_n 3, 1) := by decide +kernel
theorem d_Mo_isNewTwice_2 : decode prog_10_method_13_code 2 = .ok (.iconst 0, 1) := by decide +kernel
theorem d_Mo_isNewTwice_3 : decode prog_10_method_13_code 3 = .ok (.istore 4, 2) := by decide +kernel
theorem d_Mo_isNewTwice_5 : decode prog_10_method_13_code 5 = .ok (.iload 4, 2) := by decide +kernel
theorem d_Mo_isNewTwice_7 : decode prog_10_method_13_code 7 = .ok (.iload_n 2, 1) := by decide +kernel
theorem d_Mo_isNewTwice_8 : decode prog_10_method_13_code 8 = .ok (.if_icmp .ge 66, 3) := by decide +kernel
theorem d_Mo_isNewTwice_11 : decode prog_10_method_13_code 11 = .ok (.iconst 0, 1) := by decide +kernel
theorem d_Mo_isNewTwice_12 : decode prog_10_method_13_code 12 = .ok (.istore 5, 2) := by decide +kernel
theorem d_Mo_isNewTwice_14 : decode prog_10_method_13_code 14 = .ok (.iconst 0, 1) := by decide +kernel
theorem d_Mo_isNewTwice_15 : decode prog_10_method_13_code 15 = .ok (.istore 6, 2) := by decide +kernel
theorem d_Mo_isNewTwice_17 : decode prog_10_method_13_code 17 = .ok (.iload 6, 2) := by decide +kernel
theorem d_Mo_isNewTwice_19 : decode prog_10_method_13_code 19 = .ok (.iload_n 1, 1) := by decide +kernel
theorem d_Mo_isNewTwice_20 : decode prog_10_method_13_code 20 = .ok (.if_icmp .ge 33, 3) := by decide +kernel
theorem d_Mo_isNewTwice_23 : decode prog_10_method_13_code 23 = .ok (.iload 5, 2) := by decide +kernel
theorem d_Mo_isNewTwice_25 : decode prog_10_method_13_code 25 = .ok (.ifCond .ne 15, 3) := by decide +kernel
theorem d_Mo_isNewTwice_28 : decode prog_10_method_13_code 28 = .ok (.aload_n 0, 1) := by decide +kernel
theorem d_Mo_isNewTwice_29 : decode prog_10_method_13_code 29 = .ok (.getfield 55, 3) := by decide +kernel
theorem d_Mo_isNewTwice_32 : decode prog_10_method_13_code 32 = .ok (.iload 6, 2) := by decide +kernel
theorem d_Mo_isNewTwice_34 : decode prog_10_method_13_code 34 = .ok (.iaload, 1) := by decide +kernel
theorem d_Mo_isNewTwice_35 : decode prog_10_method_13_code 35 = .ok (.iload 4, 2) := by decide +kernel
theorem d_Mo_isNewTwice_37 : decode prog_10_method_13_code 37 = .ok (.if_icmp .ne 7, 3) := by decide +kernel
theorem d_Mo_isNewTwice_40 : decode prog_10_method_13_code 40 = .ok (.iconst 1, 1) := by decide +kernel
theorem d_Mo_isNewTwice_41 : decode prog_10_method_13_code 41 = .ok (.goto 4, 3) := by decide +kernel
theorem d_Mo_isNewTwice_44 : decode prog_10_method_13_code 44 = .ok (.iconst 0, 1) := by decide +kernel
theorem d_Mo_isNewTwice_45 : decode prog_10_method_13_code 45 = .ok (.istore 5, 2) := by decide +kernel
theorem d_Mo_isNewTwice_47 : decode prog_10_method_13_code 47 = .ok (.iinc 6 1, 3) := by decide +kernel
theorem d_Mo_isNewTwice_50 : decode prog_10_method_13_code 50 = .ok (.goto (-33), 3) := by decide +kernel
theorem d_Mo_isNewTwice_53 : decode prog_10_method_13_code 53 = .ok (.iload_n 3, 1) := by decide +kernel
theorem d_Mo_isNewTwice_54 : decode prog_10_method_13_code 54 = .ok (.ifCond .ne 8, 3) := by decide +kernel
theorem d_Mo_isNewTwice_57 : decode prog_10_method_13_code 57 = .ok (.iload 5, 2) := by decide +kernel
theorem d_Mo_isNewTwice_59 : decode prog_10_method_13_code 59 = .ok (.ifCond .ne 7, 3) := by decide +kernel
theorem d_Mo_isNewTwice_62 : decode prog_10_method_13_code 62 = .ok (.iconst 1, 1) := by decide +kernel
theorem d_Mo_isNewTwice_63 : decode prog_10_method_13_code 63 = .ok (.goto 4, 3) := by decide +kernel
theorem d_Mo_isNewTwice_66 : decode prog_10_method_13_code 66 = .ok (.iconst 0, 1) := by decide +kernel
theorem d_Mo_isNewTwice_67 : decode prog_10_method_13_code 67 = .ok (.istore_n 3, 1) := by decide +kernel
theorem d_Mo_isNewTwice_68 : decode prog_10_method_13_code 68 = .ok (.iinc 4 1, 3) := by decide +kernel
theorem d_Mo_isNewTwice_71 : decode prog_10_method_13_code 71 = .ok (.goto (-66), 3) := by decide +kernel
theorem d_Mo_isNewTwice_74 : decode prog_10_method_13_code 74 = .ok (.iload_n 3, 1) := by decide +kernel
theorem d_Mo_isNewTwice_75 : decode prog_10_method_13_code 75 = .ok (.ireturn, 1) := by decide +kernel
abbrev wd_Mo_isNewTwice (cI cJ cG cZ : ClassId) (a0 a0_from a0_to a0_near a0_lists a0_colours a0_shades a0_tints a0_attempt a0_taken a0_isApart a0_ways a0_next a0_splits a0_powers a0_row a0_many a0_can a0_could a0_arcRow a0_order a0_isOut : Nat) (v0_thrown : Int32) (v0_nodes : Int32) (v0_arcs : Int32) (v0_takenMany : Int32) (v0_leftBits : Int32) (v0_hasPolynomial : Int32) (v0_hasLists : Int32) (w0_row : Nat → Int32) : va_W := [(a0, .inr (8, [.int v0_thrown, .int v0_nodes, .int v0_arcs, .ref a0_from, .ref a0_to, .ref a0_near, .ref a0_lists, .ref a0_colours, .ref a0_shades, .ref a0_tints, .ref a0_attempt, .int v0_takenMany, .ref a0_taken, .int v0_leftBits, .ref a0_isApart, .ref a0_ways, .ref a0_next, .ref a0_splits, .ref a0_powers, .ref a0_row, .ref a0_many, .int v0_hasPolynomial, .int v0_hasLists, .ref a0_can, .ref a0_could, .ref a0_arcRow, .ref a0_order, .ref a0_isOut])), (a0_row, .inl (cI, 12, .inl w0_row))]
abbrev us_Mo_isNewTwice : List Cond := .code y_Mo_isNewTwice prog_10_method_13_code 7 (some .boolean) :: gtbl
abbrev rm_Mo_isNewTwice : Room := { frames := 0, cells := 0, slots := 0, locals := 0 }
def m_Mo_isNewTwice (F : Nat) (v0_thrown : Int32) (v0_nodes : Int32) (v0_arcs : Int32) (v0_takenMany : Int32) (v0_leftBits : Int32) (v0_hasPolynomial : Int32) (v0_hasLists : Int32) (w0_row : Nat → Int32) (p1 : Int32) (p2 : Int32) : Option (Int32) :=
  gL (fun (k_5 : (Int32 × Int32) → Option (Int32)) (z_5 : Int32 × Int32) => match z_5 with
  | (x3_1, x4_2) =>
  if p2 ≤ x4_2 then (
    gC (bzB x3_1) (some x3_1)
  ) else (
    gL (fun (k_17 : (Int32 × Int32) → Option (Int32)) (z_17 : Int32 × Int32) => match z_17 with
    | (x5_5, x6_6) =>
    if p1 ≤ x6_6 then (
      gB (α := Option (Int32)) (
        gB (x4_2 + 1) (fun x4_8 =>
        k_5 (1, x4_8))
      ) (fun J_62 =>
      if x3_1 = 0 then (
        if x5_5 = 0 then (
          J_62
        ) else (
          gB (x4_2 + 1) (fun x4_11 =>
          k_5 (0, x4_11))
        )
      ) else (
        J_62
      )
      )
    ) else (
      gB (α := Option (Int32)) (
        gB (x6_6 + 1) (fun x6_12 =>
        k_17 (1, x6_12))
      ) (fun J_40 =>
      if x5_5 = 0 then (
        gC (inb x6_6 12) (
        if (w0_row x6_6.toNatClampNeg) = x4_2 then (
          J_40
        ) else (
          gB (x6_6 + 1) (fun x6_16 =>
          k_17 (0, x6_16))
        ))
      ) else (
        J_40
      )
      )
    )
    ) F (0, 0)
  )
  ) F (0, 0)
set_option maxHeartbeats 4000000 in
set_option maxRecDepth 100000 in
theorem c_Mo_isNewTwice (l : Launch) (dC : Nat → ClassId) (dI : Nat → Nat → Nat) (cI cJ cG cZ : ClassId) (a0 a0_from a0_to a0_near a0_lists a0_colours a0_shades a0_tints a0_attempt a0_taken a0_isApart a0_ways a0_next a0_splits a0_powers a0_row a0_many a0_can a0_could a0_arcRow a0_order a0_isOut : Nat) (sz : Nat) (F : Nat) (v0_thrown : Int32) (v0_nodes : Int32) (v0_arcs : Int32) (v0_takenMany : Int32) (v0_leftBits : Int32) (v0_hasPolynomial : Int32) (v0_hasLists : Int32) (w0_row : Nat → Int32) (p1 : Int32) (p2 : Int32) (ret : Int32) (hm : m_Mo_isNewTwice F v0_thrown v0_nodes v0_arcs v0_takenMany v0_leftBits v0_hasPolynomial v0_hasLists w0_row p1 p2 = some ret) : Met l y_Mo_isNewTwice us_Mo_isNewTwice rm_Mo_isNewTwice (PcS (dC, dI) (tyL cI cJ cG cZ) [.ref a0, .int p1, .int p2] sz (wd_Mo_isNewTwice cI cJ cG cZ a0 a0_from a0_to a0_near a0_lists a0_colours a0_shades a0_tints a0_attempt a0_taken a0_isApart a0_ways a0_next a0_splits a0_powers a0_row a0_many a0_can a0_could a0_arcRow a0_order a0_isOut v0_thrown v0_nodes v0_arcs v0_takenMany v0_leftBits v0_hasPolynomial v0_hasLists w0_row)) (va_Qi (fun (r : Int32) (_ : Unit) => ret = r ∧ bz r) (fun _ t => PoS (dC, dI) (tyL cI cJ cG cZ) (wd_Mo_isNewTwice cI cJ cG cZ a0 a0_from a0_to a0_near a0_lists a0_colours a0_shades a0_tints a0_attempt a0_taken a0_isApart a0_ways a0_next a0_splits a0_powers a0_row a0_many a0_can a0_could a0_arcRow a0_order a0_isOut v0_thrown v0_nodes v0_arcs v0_takenMany v0_leftBits v0_hasPolynomial v0_hasLists w0_row) (va_A (wd_Mo_isNewTwice cI cJ cG cZ a0 a0_from a0_to a0_near a0_lists a0_colours a0_shades a0_tints a0_attempt a0_taken a0_isApart a0_ways a0_next a0_splits a0_powers a0_row a0_many a0_can a0_could a0_arcRow a0_order a0_isOut v0_thrown v0_nodes v0_arcs v0_takenMany v0_leftBits v0_hasPolynomial v0_hasLists w0_row) sz) t) (va_A (wd_Mo_isNewTwice cI cJ cG cZ a0 a0_from a0_to a0_near a0_lists a0_colours a0_shades a0_tints a0_attempt a0_taken a0_isApart a0_ways a0_next a0_splits a0_powers a0_row a0_many a0_can a0_could a0_arcRow a0_order a0_isOut v0_thrown v0_nodes v0_arcs v0_takenMany v0_leftBits v0_hasPolynomial v0_hasLists w0_row) sz)) 0 0 (va_A (wd_Mo_isNewTwice cI cJ cG cZ a0 a0_from a0_to a0_near a0_lists a0_colours a0_shades a0_tints a0_attempt a0_taken a0_isApart a0_ways a0_next a0_splits a0_powers a0_row a0_many a0_can a0_could a0_arcRow a0_order a0_isOut v0_thrown v0_nodes v0_arcs v0_takenMany v0_leftBits v0_hasPolynomial v0_hasLists w0_row) sz) := by
  refine Met.ofW (cc := prog_10_method_13_code) (maxL := 7) (ret := (some .boolean)) (by decide) rfl ?_
  intro p e s m args below meth c s₁ B hml hv
  obtain ⟨rfl, hsz, hP, hK, hD0, hNw⟩ := hv
  have hx := B.exec
  have hb := B.bytes
  have hr := B.returns
  have htt : ∀ w ∈ gtbl, w.before _ s = true := fun w h => atoms_spec (ws := us_Mo_isNewTwice) B.pre w (List.mem_cons_of_mem _ h)
  have hown : s.vm.findClass R_Mo = some m.cls := findClass_of_methodNamed B.named
  have hlocks := B.notSynchronized
  subst hsz
  have hD := hD0.self (sz := s.heap.size)
  generalize hAe : va_A (wd_Mo_isNewTwice cI cJ cG cZ a0 a0_from a0_to a0_near a0_lists a0_colours a0_shades a0_tints a0_attempt a0_taken a0_isApart a0_ways a0_next a0_splits a0_powers a0_row a0_many a0_can a0_could a0_arcRow a0_order a0_isOut v0_thrown v0_nodes v0_arcs v0_takenMany v0_leftBits v0_hasPolynomial v0_hasLists w0_row) s.heap.size = A at hD ⊢
  have hA : ∀ q : Nat, s.heap.size ≤ q → A q := fun q h => by rw [← hAe]; exact Or.inr h
  clear hAe hD0
  have hS : va_S A s.heap s.heap [] := va_S.rf
  have hl := lv_entry ([.ref a0, .int p1, .int p2]) (n := 7) (Nat.le_of_ble_eq_true rfl)
  rw [lg_entry_eq]
  generalize (lg_sl ([.ref a0, .int p1, .int p2]) ++ List.replicate (7 - (lg_sl ([.ref a0, .int p1, .int p2])).length) Slot.unset).toArray = ls at hl ⊢
  have hl : lv_has ls 7 [(0, .ref a0), (1, .int p1), (2, .int p2)] := hl
  generalize hH : s.heap = H at hP ⊢
  have hS : va_S A s.heap H [] := hH ▸ hS
  generalize hLo : ([] : List Loc) = locs at hS ⊢
  clear hH hLo
  unfold m_Mo_isNewTwice at hm
  refine lv_iconst (v := 0) hx hb d_Mo_isNewTwice_0 (by decide) ?_
  refine lv_istore_n (lv' := [(3, .int 0), (0, .ref a0), (1, .int p1), (2, .int p2)]) hx hb d_Mo_isNewTwice_1 rfl hl (by decide) rfl (fun ls hl => ?_)
  refine lv_iconst (v := 0) hx hb d_Mo_isNewTwice_2 (by decide) ?_
  refine lv_istore (lv' := [(4, .int 0), (3, .int 0), (0, .ref a0), (1, .int p1), (2, .int p2)]) hx hb d_Mo_isNewTwice_3 hl (by decide) rfl (fun ls hl => ?_)
  refine gL_e (P := (fun (z_5 : Int32 × Int32) => ∀ (x3_1 : Int32), ∀ (x4_2 : Int32), z_5 = (x3_1, x4_2) → ∀ (ls : Array Slot) (H : Heap) (locs : List Loc), lv_has ls 7 [(0, .ref a0), (1, .int p1), (2, .int p2), (3, .int x3_1), (4, .int x4_2)] → va_P (dC, dI) vwCl (wd_Mo_isNewTwice cI cJ cG cZ a0 a0_from a0_to a0_near a0_lists a0_colours a0_shades a0_tints a0_attempt a0_taken a0_isApart a0_ways a0_next a0_splits a0_powers a0_row a0_many a0_can a0_could a0_arcRow a0_order a0_isOut v0_thrown v0_nodes v0_arcs v0_takenMany v0_leftBits v0_hasPolynomial v0_hasLists w0_row) H → va_D A (wd_Mo_isNewTwice cI cJ cG cZ a0 a0_from a0_to a0_near a0_lists a0_colours a0_shades a0_tints a0_attempt a0_taken a0_isApart a0_ways a0_next a0_splits a0_powers a0_row a0_many a0_can a0_could a0_arcRow a0_order a0_isOut v0_thrown v0_nodes v0_arcs v0_takenMany v0_leftBits v0_hasPolynomial v0_hasLists w0_row) → va_S A s.heap H locs → W p l e (headSpec us_Mo_isNewTwice rm_Mo_isNewTwice).room s m ([.ref a0, .int p1, .int p2] : List Value).toArray below meth c H locs 0 0 (MQ below (va_Qi (fun (r : Int32) (_ : Unit) => ret = r ∧ bz r) (fun _ t => PoS (dC, dI) (tyL cI cJ cG cZ) (wd_Mo_isNewTwice cI cJ cG cZ a0 a0_from a0_to a0_near a0_lists a0_colours a0_shades a0_tints a0_attempt a0_taken a0_isApart a0_ways a0_next a0_splits a0_powers a0_row a0_many a0_can a0_could a0_arcRow a0_order a0_isOut v0_thrown v0_nodes v0_arcs v0_takenMany v0_leftBits v0_hasPolynomial v0_hasLists w0_row) A t) A) ([.ref a0, .int p1, .int p2] : List Value).toArray s 0 0 A) (F0 m 5 ls []))) hm (fun k_5 z_5 ih_5 hm => ?_) _ _ rfl ls H locs (lv_sub hl [2, 3, 4, 1, 0] rfl) hP hD hS
  intro x3_1 x4_2 hz ls H locs hl hP hD hS
  subst hz
  dsimp only at hm
  refine lv_iload hx hb d_Mo_isNewTwice_5 (lv_at hl 4 rfl) ?_
  refine lv_iload_n hx hb d_Mo_isNewTwice_7 rfl (lv_at hl 2 rfl) ?_
  refine lv_icmp_ge (tgt := 74) hx hb d_Mo_isNewTwice_8 (by decide) (fun c_3 => ?_) (fun c_3 => ?_)
  · have hm := ite_t c_3 hm
    refine lv_iload_n hx hb d_Mo_isNewTwice_74 rfl (lv_at hl 3 rfl) ?_
    obtain ⟨hz_4, hm⟩ := gC_e hm
    cases hm
    exact W.zret (ty := .boolean) hx hb hr (bz_nar (bzB_e hz_4)) (fun t ht hW => ⟨⟨_, (), rfl, ⟨rfl, (bzB_e hz_4)⟩, by rw [ht]; exact hP, va_K.moved hW.alike hK, hD⟩, hS.F ht⟩) hS.2.2 d_Mo_isNewTwice_75
  · have hm := ite_f c_3 hm
    refine lv_iconst (v := 0) hx hb d_Mo_isNewTwice_11 (by decide) ?_
    refine lv_istore (lv' := [(5, .int 0), (0, .ref a0), (1, .int p1), (2, .int p2), (3, .int x3_1), (4, .int x4_2)]) hx hb d_Mo_isNewTwice_12 hl (by decide) rfl (fun ls hl => ?_)
    refine lv_iconst (v := 0) hx hb d_Mo_isNewTwice_14 (by decide) ?_
    refine lv_istore (lv' := [(6, .int 0), (5, .int 0), (0, .ref a0), (1, .int p1), (2, .int p2), (3, .int x3_1), (4, .int x4_2)]) hx hb d_Mo_isNewTwice_15 hl (by decide) rfl (fun ls hl => ?_)
    refine gL_e (P := (fun (z_17 : Int32 × Int32) => ∀ (x5_5 : Int32), ∀ (x6_6 : Int32), z_17 = (x5_5, x6_6) → ∀ (ls : Array Slot) (H : Heap) (locs : List Loc), lv_has ls 7 [(0, .ref a0), (1, .int p1), (2, .int p2), (3, .int x3_1), (4, .int x4_2), (5, .int x5_5), (6, .int x6_6)] → va_P (dC, dI) vwCl (wd_Mo_isNewTwice cI cJ cG cZ a0 a0_from a0_to a0_near a0_lists a0_colours a0_shades a0_tints a0_attempt a0_taken a0_isApart a0_ways a0_next a0_splits a0_powers a0_row a0_many a0_can a0_could a0_arcRow a0_order a0_isOut v0_thrown v0_nodes v0_arcs v0_takenMany v0_leftBits v0_hasPolynomial v0_hasLists w0_row) H → va_D A (wd_Mo_isNewTwice cI cJ cG cZ a0 a0_from a0_to a0_near a0_lists a0_colours a0_shades a0_tints a0_attempt a0_taken a0_isApart a0_ways a0_next a0_splits a0_powers a0_row a0_many a0_can a0_could a0_arcRow a0_order a0_isOut v0_thrown v0_nodes v0_arcs v0_takenMany v0_leftBits v0_hasPolynomial v0_hasLists w0_row) → va_S A s.heap H locs → W p l e (headSpec us_Mo_isNewTwice rm_Mo_isNewTwice).room s m ([.ref a0, .int p1, .int p2] : List Value).toArray below meth c H locs 0 0 (MQ below (va_Qi (fun (r : Int32) (_ : Unit) => ret = r ∧ bz r) (fun _ t => PoS (dC, dI) (tyL cI cJ cG cZ) (wd_Mo_isNewTwice cI cJ cG cZ a0 a0_from a0_to a0_near a0_lists a0_colours a0_shades a0_tints a0_attempt a0_taken a0_isApart a0_ways a0_next a0_splits a0_powers a0_row a0_many a0_can a0_could a0_arcRow a0_order a0_isOut v0_thrown v0_nodes v0_arcs v0_takenMany v0_leftBits v0_hasPolynomial v0_hasLists w0_row) A t) A) ([.ref a0, .int p1, .int p2] : List Value).toArray s 0 0 A) (F0 m 17 ls []))) hm (fun k_17 z_17 ih_17 hm => ?_) _ _ rfl ls H locs (lv_sub hl [2, 3, 4, 5, 6, 1, 0] rfl) hP hD hS
    intro x5_5 x6_6 hz ls H locs hl hP hD hS
    subst hz
    dsimp only at hm
    refine lv_iload hx hb d_Mo_isNewTwice_17 (lv_at hl 6 rfl) ?_
    refine lv_iload_n hx hb d_Mo_isNewTwice_19 rfl (lv_at hl 1 rfl) ?_
    refine lv_icmp_ge (tgt := 53) hx hb d_Mo_isNewTwice_20 (by decide) (fun c_7 => ?_) (fun c_7 => ?_)
    · have hm := ite_t c_7 hm
      refine lv_iload_n hx hb d_Mo_isNewTwice_53 rfl (lv_at hl 3 rfl) ?_
      obtain ⟨J_62, hJ_62, hm⟩ := gB_x hm
      have jp_62 : ∀ (ls : Array Slot) (H : Heap) (locs : List Loc), J_62 = some ret → lv_has ls 7 [(0, .ref a0), (1, .int p1), (2, .int p2), (4, .int x4_2)] → va_P (dC, dI) vwCl (wd_Mo_isNewTwice cI cJ cG cZ a0 a0_from a0_to a0_near a0_lists a0_colours a0_shades a0_tints a0_attempt a0_taken a0_isApart a0_ways a0_next a0_splits a0_powers a0_row a0_many a0_can a0_could a0_arcRow a0_order a0_isOut v0_thrown v0_nodes v0_arcs v0_takenMany v0_leftBits v0_hasPolynomial v0_hasLists w0_row) H → va_D A (wd_Mo_isNewTwice cI cJ cG cZ a0 a0_from a0_to a0_near a0_lists a0_colours a0_shades a0_tints a0_attempt a0_taken a0_isApart a0_ways a0_next a0_splits a0_powers a0_row a0_many a0_can a0_could a0_arcRow a0_order a0_isOut v0_thrown v0_nodes v0_arcs v0_takenMany v0_leftBits v0_hasPolynomial v0_hasLists w0_row) → va_S A s.heap H locs → W p l e (headSpec us_Mo_isNewTwice rm_Mo_isNewTwice).room s m ([.ref a0, .int p1, .int p2] : List Value).toArray below meth c H locs 0 0 (MQ below (va_Qi (fun (r : Int32) (_ : Unit) => ret = r ∧ bz r) (fun _ t => PoS (dC, dI) (tyL cI cJ cG cZ) (wd_Mo_isNewTwice cI cJ cG cZ a0 a0_from a0_to a0_near a0_lists a0_colours a0_shades a0_tints a0_attempt a0_taken a0_isApart a0_ways a0_next a0_splits a0_powers a0_row a0_many a0_can a0_could a0_arcRow a0_order a0_isOut v0_thrown v0_nodes v0_arcs v0_takenMany v0_leftBits v0_hasPolynomial v0_hasLists w0_row) A t) A) ([.ref a0, .int p1, .int p2] : List Value).toArray s 0 0 A) (F0 m 62 ls []) := by
        intro ls H locs hm hl hP hD hS
        have hm := jn0 hJ_62 hm
        refine lv_iconst (v := 1) hx hb d_Mo_isNewTwice_62 (by decide) ?_
        refine lv_goto (tgt := 67) hx hb d_Mo_isNewTwice_63 (by decide) ?_
        refine lv_istore_n (lv' := [(3, .int 1), (0, .ref a0), (1, .int p1), (2, .int p2), (4, .int x4_2)]) hx hb d_Mo_isNewTwice_67 rfl hl (by decide) rfl (fun ls hl => ?_)
        obtain ⟨x4_8, ex4_8⟩ : ∃ y : Int32, y = x4_2 + 1 := ⟨_, rfl⟩
        have hm := gB_at ex4_8 hm
        refine lv_iinc (v := x4_8) (lv' := [(4, .int x4_8), (3, .int 1), (0, .ref a0), (1, .int p1), (2, .int p2)]) hx hb d_Mo_isNewTwice_68 hl (k := 4) rfl (by rw [ex4_8]; rfl) (by decide) rfl (fun ls hl => ?_)
        refine lv_goto (tgt := 5) hx hb d_Mo_isNewTwice_71 (by decide) ?_
        exact ih_5 _ hm _ _ rfl ls H locs (lv_sub hl [2, 3, 4, 1, 0] rfl) hP hD hS
      clear hJ_62
      refine lv_if_ne (tgt := 62) hx hb d_Mo_isNewTwice_54 (by decide) (fun c_9 => ?_) (fun c_9 => ?_)
      · have hm := ite_f c_9 hm
        exact jp_62 ls H locs hm (lv_sub hl [0, 1, 2, 4] rfl) hP hD hS
      · have hm := ite_t c_9 hm
        refine lv_iload hx hb d_Mo_isNewTwice_57 (lv_at hl 5 rfl) ?_
        refine lv_if_ne (tgt := 66) hx hb d_Mo_isNewTwice_59 (by decide) (fun c_10 => ?_) (fun c_10 => ?_)
        · have hm := ite_f c_10 hm
          refine lv_iconst (v := 0) hx hb d_Mo_isNewTwice_66 (by decide) ?_
          refine lv_istore_n (lv' := [(3, .int 0), (0, .ref a0), (1, .int p1), (2, .int p2), (4, .int x4_2), (5, .int x5_5), (6, .int x6_6)]) hx hb d_Mo_isNewTwice_67 rfl hl (by decide) rfl (fun ls hl => ?_)
          obtain ⟨x4_11, ex4_11⟩ : ∃ y : Int32, y = x4_2 + 1 := ⟨_, rfl⟩
          have hm := gB_at ex4_11 hm
          refine lv_iinc (v := x4_11) (lv' := [(4, .int x4_11), (3, .int 0), (0, .ref a0), (1, .int p1), (2, .int p2), (5, .int x5_5), (6, .int x6_6)]) hx hb d_Mo_isNewTwice_68 hl (k := 4) rfl (by rw [ex4_11]; rfl) (by decide) rfl (fun ls hl => ?_)
          refine lv_goto (tgt := 5) hx hb d_Mo_isNewTwice_71 (by decide) ?_
          exact ih_5 _ hm _ _ rfl ls H locs (lv_sub hl [2, 3, 4, 1, 0] rfl) hP hD hS
        · have hm := ite_t c_10 hm
          exact jp_62 ls H locs hm (lv_sub hl [0, 1, 2, 4] rfl) hP hD hS
    · have hm := ite_f c_7 hm
      refine lv_iload hx hb d_Mo_isNewTwice_23 (lv_at hl 5 rfl) ?_
      obtain ⟨J_40, hJ_40, hm⟩ := gB_x hm
      have jp_40 : ∀ (ls : Array Slot) (H : Heap) (locs : List Loc), J_40 = some ret → lv_has ls 7 [(0, .ref a0), (1, .int p1), (2, .int p2), (3, .int x3_1), (4, .int x4_2), (6, .int x6_6)] → va_P (dC, dI) vwCl (wd_Mo_isNewTwice cI cJ cG cZ a0 a0_from a0_to a0_near a0_lists a0_colours a0_shades a0_tints a0_attempt a0_taken a0_isApart a0_ways a0_next a0_splits a0_powers a0_row a0_many a0_can a0_could a0_arcRow a0_order a0_isOut v0_thrown v0_nodes v0_arcs v0_takenMany v0_leftBits v0_hasPolynomial v0_hasLists w0_row) H → va_D A (wd_Mo_isNewTwice cI cJ cG cZ a0 a0_from a0_to a0_near a0_lists a0_colours a0_shades a0_tints a0_attempt a0_taken a0_isApart a0_ways a0_next a0_splits a0_powers a0_row a0_many a0_can a0_could a0_arcRow a0_order a0_isOut v0_thrown v0_nodes v0_arcs v0_takenMany v0_leftBits v0_hasPolynomial v0_hasLists w0_row) → va_S A s.heap H locs → W p l e (headSpec us_Mo_isNewTwice rm_Mo_isNewTwice).room s m ([.ref a0, .int p1, .int p2] : List Value).toArray below meth c H locs 0 0 (MQ below (va_Qi (fun (r : Int32) (_ : Unit) => ret = r ∧ bz r) (fun _ t => PoS (dC, dI) (tyL cI cJ cG cZ) (wd_Mo_isNewTwice cI cJ cG cZ a0 a0_from a0_to a0_near a0_lists a0_colours a0_shades a0_tints a0_attempt a0_taken a0_isApart a0_ways a0_next a0_splits a0_powers a0_row a0_many a0_can a0_could a0_arcRow a0_order a0_isOut v0_thrown v0_nodes v0_arcs v0_takenMany v0_leftBits v0_hasPolynomial v0_hasLists w0_row) A t) A) ([.ref a0, .int p1, .int p2] : List Value).toArray s 0 0 A) (F0 m 40 ls []) := by
        intro ls H locs hm hl hP hD hS
        have hm := jn0 hJ_40 hm
        refine lv_iconst (v := 1) hx hb d_Mo_isNewTwice_40 (by decide) ?_
        refine lv_goto (tgt := 45) hx hb d_Mo_isNewTwice_41 (by decide) ?_
        refine lv_istore (lv' := [(5, .int 1), (0, .ref a0), (1, .int p1), (2, .int p2), (3, .int x3_1), (4, .int x4_2), (6, .int x6_6)]) hx hb d_Mo_isNewTwice_45 hl (by decide) rfl (fun ls hl => ?_)
        obtain ⟨x6_12, ex6_12⟩ : ∃ y : Int32, y = x6_6 + 1 := ⟨_, rfl⟩
        have hm := gB_at ex6_12 hm
        refine lv_iinc (v := x6_12) (lv' := [(6, .int x6_12), (5, .int 1), (0, .ref a0), (1, .int p1), (2, .int p2), (3, .int x3_1), (4, .int x4_2)]) hx hb d_Mo_isNewTwice_47 hl (k := 6) rfl (by rw [ex6_12]; rfl) (by decide) rfl (fun ls hl => ?_)
        refine lv_goto (tgt := 17) hx hb d_Mo_isNewTwice_50 (by decide) ?_
        exact ih_17 _ hm _ _ rfl ls H locs (lv_sub hl [2, 3, 4, 5, 6, 1, 0] rfl) hP hD hS
      clear hJ_40
      refine lv_if_ne (tgt := 40) hx hb d_Mo_isNewTwice_25 (by decide) (fun c_13 => ?_) (fun c_13 => ?_)
      · have hm := ite_f c_13 hm
        exact jp_40 ls H locs hm (lv_sub hl [0, 1, 2, 3, 4, 6] rfl) hP hD hS
      · have hm := ite_t c_13 hm
        refine lv_aload_n hx hb d_Mo_isNewTwice_28 rfl (lv_at hl 0 rfl) ?_
        refine va_get (D := (dC, dI)) (ci := 8) (v := .ref a0_row) (C := R_Mo) (T := T_Mo) (N := 28) hx hb htt hin_Mo hown hK hP 0 rfl rfl 19 (by decide) (htt _ kt_788) (fun _ h9 => h9) rfl d_Mo_isNewTwice_29 ?_
        refine lv_iload hx hb d_Mo_isNewTwice_32 (lv_at hl 6 rfl) ?_
        obtain ⟨hi_14, hm⟩ := gC_e hm
        refine va_iald hx hb hK hP 1 0 rfl rfl (inb_vp hi_14) d_Mo_isNewTwice_34 ?_
        refine lv_iload hx hb d_Mo_isNewTwice_35 (lv_at hl 4 rfl) ?_
        refine lv_icmp_ne (tgt := 44) hx hb d_Mo_isNewTwice_37 (by decide) (fun c_15 => ?_) (fun c_15 => ?_)
        · have hm := ite_f c_15 hm
          refine lv_iconst (v := 0) hx hb d_Mo_isNewTwice_44 (by decide) ?_
          refine lv_istore (lv' := [(5, .int 0), (0, .ref a0), (1, .int p1), (2, .int p2), (3, .int x3_1), (4, .int x4_2), (6, .int x6_6)]) hx hb d_Mo_isNewTwice_45 hl (by decide) rfl (fun ls hl => ?_)
          obtain ⟨x6_16, ex6_16⟩ : ∃ y : Int32, y = x6_6 + 1 := ⟨_, rfl⟩
          have hm := gB_at ex6_16 hm
          refine lv_iinc (v := x6_16) (lv' := [(6, .int x6_16), (5, .int 0), (0, .ref a0), (1, .int p1), (2, .int p2), (3, .int x3_1), (4, .int x4_2)]) hx hb d_Mo_isNewTwice_47 hl (k := 6) rfl (by rw [ex6_16]; rfl) (by decide) rfl (fun ls hl => ?_)
          refine lv_goto (tgt := 17) hx hb d_Mo_isNewTwice_50 (by decide) ?_
          exact ih_17 _ hm _ _ rfl ls H locs (lv_sub hl [2, 3, 4, 5, 6, 1, 0] rfl) hP hD hS
        · have hm := ite_t c_15 hm
          exact jp_40 ls H locs hm (lv_sub hl [0, 1, 2, 3, 4, 6] rfl) hP hD hS
theorem d_Mo_search_0 : decode prog_10_method_12_code 0 = .ok (.iconst 0, 1) := by decide +kernel
theorem d_Mo_search_1 : decode prog_10_method_12_code 1 = .ok (.istore_n 3, 1) := by decide +kernel
theorem d_Mo_search_2 : decode prog_10_method_12_code 2 = .ok (.iload_n 3, 1) := by decide +kernel
theorem d_Mo_search_3 : decode prog_10_method_12_code 3 = .ok (.bipush 12, 2) := by decide +kernel
theorem d_Mo_search_5 : decode prog_10_method_12_code 5 = .ok (.if_icmp .ge 16, 3) := by decide +kernel
theorem d_Mo_search_8 : decode prog_10_method_12_code 8 = .ok (.aload_n 0, 1) := by decide +kernel
theorem d_Mo_search_9 : decode prog_10_method_12_code 9 = .ok (.getfield 58, 3) := by decide +kernel
theorem d_Mo_search_12 : decode prog_10_method_12_code 12 = .ok (.iload_n 3, 1) := by decide +kernel
theorem d_Mo_search_13 : decode prog_10_method_12_code 13 = .ok (.iconst 0, 1) := by decide +kernel
theorem d_Mo_search_14 : decode prog_10_method_12_code 14 = .ok (.iastore, 1) := by decide +kernel
theorem d_Mo_search_15 : decode prog_10_method_12_code 15 = .ok (.iinc 3 1, 3) := by decide +kernel
theorem d_Mo_search_18 : decode prog_10_method_12_code 18 = .ok (.goto (-16), 3) := by decide +kernel
theorem d_Mo_search_21 : decode prog_10_method_12_code 21 = .ok (.iconst 0, 1) := by decide +kernel
theorem d_Mo_search_22 : decode prog_10_method_12_code 22 = .ok (.istore_n 3, 1) := by decide +kernel
theorem d_Mo_search_23 : decode prog_10_method_12_code 23 = .ok (.iconst 0, 1) := by decide +kernel
theorem d_Mo_search_24 : decode prog_10_method_12_code 24 = .ok (.istore 4, 2) := by decide +kernel
theorem d_Mo_search_26 : decode prog_10_method_12_code 26 = .ok (.iload_n 3, 1) := by decide +kernel
theorem d_Mo_search_27 : decode prog_10_method_12_code 27 = .ok (.ifCond .lt 148, 3) := by decide +kernel
theorem d_Mo_search_30 : decode prog_10_method_12_code 30 = .ok (.iload_n 3, 1) := by decide +kernel
theorem d_Mo_search_31 : decode prog_10_method_12_code 31 = .ok (.aload_n 0, 1) := by decide +kernel
theorem d_Mo_search_32 : decode prog_10_method_12_code 32 = .ok (.getfield 86, 3) := by decide +kernel
theorem d_Mo_search_35 : decode prog_10_method_12_code 35 = .ok (.if_icmp .ge 140, 3) := by decide +kernel
theorem d_Mo_search_38 : decode prog_10_method_12_code 38 = .ok (.iload 4, 2) := by decide +kernel
theorem d_Mo_search_40 : decode prog_10_method_12_code 40 = .ok (.istore 5, 2) := by decide +kernel
theorem d_Mo_search_42 : decode prog_10_method_12_code 42 = .ok (.iload 5, 2) := by decide +kernel
theorem d_Mo_search_44 : decode prog_10_method_12_code 44 = .ok (.iload_n 1, 1) := by decide +kernel
theorem d_Mo_search_45 : decode prog_10_method_12_code 45 = .ok (.if_icmp .ge 33, 3) := by decide +kernel
theorem d_Mo_search_48 : decode prog_10_method_12_code 48 = .ok (.aload_n 0, 1) := by decide +kernel
theorem d_Mo_search_49 : decode prog_10_method_12_code 49 = .ok (.iload_n 3, 1) := by decide +kernel
theorem d_Mo_search_50 : decode prog_10_method_12_code 50 = .ok (.iload 5, 2) := by decide +kernel
theorem d_Mo_search_52 : decode prog_10_method_12_code 52 = .ok (.invokevirtual 102, 3) := by decide +kernel
theorem d_Mo_search_55 : decode prog_10_method_12_code 55 = .ok (.ifCond .eq 17, 3) := by decide +kernel
theorem d_Mo_search_58 : decode prog_10_method_12_code 58 = .ok (.iload_n 2, 1) := by decide +kernel
theorem d_Mo_search_59 : decode prog_10_method_12_code 59 = .ok (.ifCond .eq 19, 3) := by decide +kernel
theorem d_Mo_search_62 : decode prog_10_method_12_code 62 = .ok (.aload_n 0, 1) := by decide +kernel
theorem d_Mo_search_63 : decode prog_10_method_12_code 63 = .ok (.iload 5, 2) := by decide +kernel
theorem d_Mo_search_65 : decode prog_10_method_12_code 65 = .ok (.iload_n 1, 1) := by decide +kernel
theorem d_Mo_search_66 : decode prog_10_method_12_code 66 = .ok (.invokevirtual 106, 3) := by decide +kernel
theorem d_Mo_search_69 : decode prog_10_method_12_code 69 = .ok (.ifCond .ne 9, 3) := by decide +kernel
theorem d_Mo_search_72 : decode prog_10_method_12_code 72 = .ok (.iinc 5 1, 3) := by decide +kernel
theorem d_Mo_search_75 : decode prog_10_method_12_code 75 = .ok (.goto (-33), 3) := by decide +kernel
theorem d_Mo_search_78 : decode prog_10_method_12_code 78 = .ok (.iload 5, 2) := by decide +kernel
theorem d_Mo_search_80 : decode prog_10_method_12_code 80 = .ok (.iload_n 1, 1) := by decide +kernel
theorem d_Mo_search_81 : decode prog_10_method_12_code 81 = .ok (.if_icmp .ge 17, 3) := by decide +kernel
theorem d_Mo_search_84 : decode prog_10_method_12_code 84 = .ok (.aload_n 0, 1) := by decide +kernel
theorem d_Mo_search_85 : decode prog_10_method_12_code 85 = .ok (.iload_n 3, 1) := by decide +kernel
theorem d_Mo_search_86 : decode prog_10_method_12_code 86 = .ok (.iload 5, 2) := by decide +kernel
theorem d_Mo_search_88 : decode prog_10_method_12_code 88 = .ok (.invokevirtual 109, 3) := by decide +kernel
theorem d_Mo_search_91 : decode prog_10_method_12_code 91 = .ok (.ifCond .eq 7, 3) := by decide +kernel
theorem d_Mo_search_94 : decode prog_10_method_12_code 94 = .ok (.iconst 1, 1) := by decide +kernel
theorem d_Mo_search_95 : decode prog_10_method_12_code 95 = .ok (.goto 4, 3) := by decide +kernel
theorem d_Mo_search_98 : decode prog_10_method_12_code 98 = .ok (.iconst 0, 1) := by decide +kernel
theorem d_Mo_search_99 : decode prog_10_method_12_code 99 = .ok (.istore 6, 2) := by decide +kernel
theorem d_Mo_search_101 : decode prog_10_method_12_code 101 = .ok (.iload 5, 2) := by decide +kernel
theorem d_Mo_search_103 : decode prog_10_method_12_code 103 = .ok (.iload_n 1, 1) := by decide +kernel
theorem d_Mo_search_104 : decode prog_10_method_12_code 104 = .ok (.if_icmp .ge 36, 3) := by decide +kernel
theorem d_Mo_search_107 : decode prog_10_method_12_code 107 = .ok (.iload 6, 2) := by decide +kernel
theorem d_Mo_search_109 : decode prog_10_method_12_code 109 = .ok (.ifCond .ne 31, 3) := by decide +kernel
theorem d_Mo_search_112 : decode prog_10_method_12_code 112 = .ok (.aload_n 0, 1) := by decide +kernel
theorem d_Mo_search_113 : decode prog_10_method_12_code 113 = .ok (.getfield 55, 3) := by decide +kernel
theorem d_Mo_search_116 : decode prog_10_method_12_code 116 = .ok (.iload_n 3, 1) := by decide +kernel
theorem d_Mo_search_117 : decode prog_10_method_12_code 117 = .ok (.iload 5, 2) := by decide +kernel
theorem d_Mo_search_119 : decode prog_10_method_12_code 119 = .ok (.iastore, 1) := by decide +kernel
theorem d_Mo_search_120 : decode prog_10_method_12_code 120 = .ok (.aload_n 0, 1) := by decide +kernel
theorem d_Mo_search_121 : decode prog_10_method_12_code 121 = .ok (.getfield 58, 3) := by decide +kernel
theorem d_Mo_search_124 : decode prog_10_method_12_code 124 = .ok (.iload 5, 2) := by decide +kernel
theorem d_Mo_search_126 : decode prog_10_method_12_code 126 = .ok (.dup2, 1) := by decide +kernel
theorem d_Mo_search_127 : decode prog_10_method_12_code 127 = .ok (.iaload, 1) := by decide +kernel
theorem d_Mo_search_128 : decode prog_10_method_12_code 128 = .ok (.iconst 1, 1) := by decide +kernel
theorem d_Mo_search_129 : decode prog_10_method_12_code 129 = .ok (.iadd, 1) := by decide +kernel
theorem d_Mo_search_130 : decode prog_10_method_12_code 130 = .ok (.iastore, 1) := by decide +kernel
theorem d_Mo_search_131 : decode prog_10_method_12_code 131 = .ok (.iinc 3 1, 3) := by decide +kernel
theorem d_Mo_search_134 : decode prog_10_method_12_code 134 = .ok (.iconst 0, 1) := by decide +kernel
theorem d_Mo_search_135 : decode prog_10_method_12_code 135 = .ok (.istore 4, 2) := by decide +kernel
theorem d_Mo_search_137 : decode prog_10_method_12_code 137 = .ok (.goto 35, 3) := by decide +kernel
theorem d_Mo_search_140 : decode prog_10_method_12_code 140 = .ok (.iinc 3 (-1), 3) := by decide +kernel
theorem d_Mo_search_143 : decode prog_10_method_12_code 143 = .ok (.iload_n 3, 1) := by decide +kernel
theorem d_Mo_search_144 : decode prog_10_method_12_code 144 = .ok (.ifCond .lt 28, 3) := by decide +kernel
theorem d_Mo_search_147 : decode prog_10_method_12_code 147 = .ok (.aload_n 0, 1) := by decide +kernel
theorem d_Mo_search_148 : decode prog_10_method_12_code 148 = .ok (.getfield 58, 3) := by decide +kernel
theorem d_Mo_search_151 : decode prog_10_method_12_code 151 = .ok (.aload_n 0, 1) := by decide +kernel
theorem d_Mo_search_152 : decode prog_10_method_12_code 152 = .ok (.getfield 55, 3) := by decide +kernel
theorem d_Mo_search_155 : decode prog_10_method_12_code 155 = .ok (.iload_n 3, 1) := by decide +kernel
theorem d_Mo_search_156 : decode prog_10_method_12_code 156 = .ok (.iaload, 1) := by decide +kernel
theorem d_Mo_search_157 : decode prog_10_method_12_code 157 = .ok (.dup2, 1) := by decide +kernel
theorem d_Mo_search_158 : decode prog_10_method_12_code 158 = .ok (.iaload, 1) := by decide +kernel
theorem d_Mo_search_159 : decode prog_10_method_12_code 159 = .ok (.iconst 1, 1) := by decide +kernel
theorem d_Mo_search_160 : decode prog_10_method_12_code 160 = .ok (.isub, 1) := by decide +kernel
theorem d_Mo_search_161 : decode prog_10_method_12_code 161 = .ok (.iastore, 1) := by decide +kernel
theorem d_Mo_search_162 : decode prog_10_method_12_code 162 = .ok (.aload_n 0, 1) := by decide +kernel
theorem d_Mo_search_163 : decode prog_10_method_12_code 163 = .ok (.getfield 55, 3) := by decide +kernel
theorem d_Mo_search_166 : decode prog_10_method_12_code 166 = .ok (.iload_n 3, 1) := by decide +kernel
theorem d_Mo_search_167 : decode prog_10_method_12_code 167 = .ok (.iaload, 1) := by decide +kernel
theorem d_Mo_search_168 : decode prog_10_method_12_code 168 = .ok (.iconst 1, 1) := by decide +kernel
theorem d_Mo_search_169 : decode prog_10_method_12_code 169 = .ok (.iadd, 1) := by decide +kernel
theorem d_Mo_search_170 : decode prog_10_method_12_code 170 = .ok (.istore 4, 2) := by decide +kernel
theorem d_Mo_search_172 : decode prog_10_method_12_code 172 = .ok (.goto (-146), 3) := by decide +kernel
theorem d_Mo_search_175 : decode prog_10_method_12_code 175 = .ok (.iload_n 3, 1) := by decide +kernel
theorem d_Mo_search_176 : decode prog_10_method_12_code 176 = .ok (.aload_n 0, 1) := by decide +kernel
theorem d_Mo_search_177 : decode prog_10_method_12_code 177 = .ok (.getfield 86, 3) := by decide +kernel
theorem d_Mo_search_180 : decode prog_10_method_12_code 180 = .ok (.if_icmp .ne 7, 3) := by decide +kernel
theorem d_Mo_search_183 : decode prog_10_method_12_code 183 = .ok (.iconst 1, 1) := by decide +kernel
theorem d_Mo_search_184 : decode prog_10_method_12_code 184 = .ok (.goto 4, 3) := by decide +kernel
theorem d_Mo_search_187 : decode prog_10_method_12_code 187 = .ok (.iconst 0, 1) := by decide +kernel
theorem d_Mo_search_188 : decode prog_10_method_12_code 188 = .ok (.ireturn, 1) := by decide +kernel
abbrev wd_Mo_search (cI cJ cG cZ : ClassId) (a0 a0_from a0_to a0_near a0_lists a0_colours a0_shades a0_tints a0_attempt a0_taken a0_isApart a0_ways a0_next a0_splits a0_powers a0_row a0_many a0_can a0_could a0_arcRow a0_order a0_isOut : Nat) (v0_thrown : Int32) (v0_nodes : Int32) (v0_arcs : Int32) (v0_takenMany : Int32) (v0_leftBits : Int32) (v0_hasPolynomial : Int32) (v0_hasLists : Int32) (w0_near : Nat → Int32) (w0_row : Nat → Int32) (w0_many : Nat → Int32) : va_W := [(a0, .inr (8, [.int v0_thrown, .int v0_nodes, .int v0_arcs, .ref a0_from, .ref a0_to, .ref a0_near, .ref a0_lists, .ref a0_colours, .ref a0_shades, .ref a0_tints, .ref a0_attempt, .int v0_takenMany, .ref a0_taken, .int v0_leftBits, .ref a0_isApart, .ref a0_ways, .ref a0_next, .ref a0_splits, .ref a0_powers, .ref a0_row, .ref a0_many, .int v0_hasPolynomial, .int v0_hasLists, .ref a0_can, .ref a0_could, .ref a0_arcRow, .ref a0_order, .ref a0_isOut])), (a0_near, .inl (cI, 12, .inl w0_near)), (a0_row, .inl (cI, 12, .inl w0_row)), (a0_many, .inl (cI, 12, .inl w0_many))]
abbrev us_Mo_search : List Cond := .code y_Mo_search prog_10_method_12_code 7 (some .boolean) :: gtbl
abbrev rm_Mo_search : Room := { frames := 1, cells := 0, slots := 0, locals := 26 }
def m_Mo_search (F : Nat) (v0_thrown : Int32) (v0_nodes : Int32) (v0_arcs : Int32) (v0_takenMany : Int32) (v0_leftBits : Int32) (v0_hasPolynomial : Int32) (v0_hasLists : Int32) (w0_near : Nat → Int32) (w0_row : Nat → Int32) (w0_many : Nat → Int32) (p1 : Int32) (p2 : Int32) : Option (Int32 × (Nat → Int32) × (Nat → Int32)) :=
  gL (fun (k_2 : (Int32 × (Nat → Int32)) → Option (Int32 × (Nat → Int32) × (Nat → Int32))) (z_2 : Int32 × (Nat → Int32)) => match z_2 with
  | (x3_1, w0_many_2) =>
  if (12 : Int32) ≤ x3_1 then (
    gL (fun (k_26 : (Int32 × Int32 × (Nat → Int32) × (Nat → Int32)) → Option (Int32 × (Nat → Int32) × (Nat → Int32))) (z_26 : Int32 × Int32 × (Nat → Int32) × (Nat → Int32)) => match z_26 with
    | (x3_4, x4_5, w0_row_6, w0_many_7) =>
    gB (α := Option (Int32 × (Nat → Int32) × (Nat → Int32))) (
      if x3_4 = v0_nodes then (
        some (1, w0_row_6, w0_many_7)
      ) else (
        some (0, w0_row_6, w0_many_7)
      )
    ) (fun J_175 =>
    if x3_4 < 0 then (
      J_175
    ) else (
      if v0_nodes ≤ x3_4 then (
        J_175
      ) else (
        gL (fun (k_42 : Int32 → Option (Int32 × (Nat → Int32) × (Nat → Int32))) (x5_11 : Int32) =>
        gB (α := Option (Int32 × (Nat → Int32) × (Nat → Int32))) (
          gB (α := Int32 → Option (Int32 × (Nat → Int32) × (Nat → Int32))) (fun s_12 =>
            gB (α := Option (Int32 × (Nat → Int32) × (Nat → Int32))) (
              gB (x3_4 + (-1)) (fun x3_13 =>
              if x3_13 < 0 then (
                k_26 (x3_13, x4_5, w0_row_6, w0_many_7)
              ) else (
                gC (inb x3_13 12) (
                gC (inb (w0_row_6 x3_13.toNatClampNeg) 12) (
                gC (inb (w0_row_6 x3_13.toNatClampNeg) 12) (
                gC (inb x3_13 12) (
                gB ((w0_row_6 x3_13.toNatClampNeg) + 1) (fun x4_19 =>
                k_26 (x3_13, x4_19, w0_row_6, upd w0_many_7 (w0_row_6 x3_13.toNatClampNeg).toNatClampNeg ((w0_many_7 (w0_row_6 x3_13.toNatClampNeg).toNatClampNeg) - 1)))))))
              ))
            ) (fun J_140 =>
            if p1 ≤ x5_11 then (
              J_140
            ) else (
              if s_12 = 0 then (
                gC (inb x3_4 12) (
                gC (inb x5_11 12) (
                gC (inb x5_11 12) (
                gB (x3_4 + 1) (fun x3_25 =>
                k_26 (x3_25, 0, upd w0_row_6 x3_4.toNatClampNeg x5_11, upd w0_many_7 x5_11.toNatClampNeg ((w0_many_7 x5_11.toNatClampNeg) + 1))))))
              ) else (
                J_140
              )
            )
            )
          ) (fun J_99 =>
          gB (α := Option (Int32 × (Nat → Int32) × (Nat → Int32))) (
            J_99 0
          ) (fun J_98 =>
          if p1 ≤ x5_11 then (
            J_98
          ) else (
            gM (m_Mo_isNewTwice F v0_thrown v0_nodes v0_arcs v0_takenMany v0_leftBits v0_hasPolynomial v0_hasLists w0_row_6 x3_4 x5_11) (fun q_27 =>
            if q_27 = 0 then (
              J_98
            ) else (
              J_99 1
            ))
          )
          )
          )
        ) (fun J_78 =>
        if p1 ≤ x5_11 then (
          J_78
        ) else (
          gM (m_Mo_fits F v0_thrown v0_nodes v0_arcs v0_takenMany v0_leftBits v0_hasPolynomial v0_hasLists w0_near w0_row_6 x3_4 x5_11) (fun q_33 =>
          if q_33 = 0 then (
            gB (x5_11 + 1) (fun x5_38 =>
            k_42 x5_38)
          ) else (
            if p2 = 0 then (
              J_78
            ) else (
              gM (m_Mo_isEven F v0_thrown v0_nodes v0_arcs v0_takenMany v0_leftBits v0_hasPolynomial v0_hasLists w0_many_7 x5_11 p1) (fun q_40 =>
              if q_40 = 0 then (
                gB (x5_11 + 1) (fun x5_45 =>
                k_42 x5_45)
              ) else (
                J_78
              ))
            )
          ))
        )
        )
        ) F x4_5
      )
    )
    )
    ) F (0, 0, w0_row, w0_many_2)
  ) else (
    gC (inb x3_1 12) (
    gB (x3_1 + 1) (fun x3_47 =>
    k_2 (x3_47, upd w0_many_2 x3_1.toNatClampNeg 0)))
  )
  ) F (0, w0_many)
set_option maxHeartbeats 4000000 in
set_option maxRecDepth 100000 in
theorem c_Mo_search (l : Launch) (dC : Nat → ClassId) (dI : Nat → Nat → Nat) (cI cJ cG cZ : ClassId) (a0 a0_from a0_to a0_near a0_lists a0_colours a0_shades a0_tints a0_attempt a0_taken a0_isApart a0_ways a0_next a0_splits a0_powers a0_row a0_many a0_can a0_could a0_arcRow a0_order a0_isOut : Nat) (sz : Nat) (F : Nat) (v0_thrown : Int32) (v0_nodes : Int32) (v0_arcs : Int32) (v0_takenMany : Int32) (v0_leftBits : Int32) (v0_hasPolynomial : Int32) (v0_hasLists : Int32) (w0_near : Nat → Int32) (w0_row : Nat → Int32) (w0_many : Nat → Int32) (p1 : Int32) (p2 : Int32) (ret : Int32) (o_w0_row : Nat → Int32) (o_w0_many : Nat → Int32) (hm : m_Mo_search F v0_thrown v0_nodes v0_arcs v0_takenMany v0_leftBits v0_hasPolynomial v0_hasLists w0_near w0_row w0_many p1 p2 = some (ret, o_w0_row, o_w0_many)) : Met l y_Mo_search us_Mo_search rm_Mo_search (PcS (dC, dI) (tyL cI cJ cG cZ) [.ref a0, .int p1, .int p2] sz (wd_Mo_search cI cJ cG cZ a0 a0_from a0_to a0_near a0_lists a0_colours a0_shades a0_tints a0_attempt a0_taken a0_isApart a0_ways a0_next a0_splits a0_powers a0_row a0_many a0_can a0_could a0_arcRow a0_order a0_isOut v0_thrown v0_nodes v0_arcs v0_takenMany v0_leftBits v0_hasPolynomial v0_hasLists w0_near w0_row w0_many)) (va_Qi (fun (r : Int32) (_ : Unit) => ret = r ∧ bz r) (fun _ t => PoS (dC, dI) (tyL cI cJ cG cZ) (wd_Mo_search cI cJ cG cZ a0 a0_from a0_to a0_near a0_lists a0_colours a0_shades a0_tints a0_attempt a0_taken a0_isApart a0_ways a0_next a0_splits a0_powers a0_row a0_many a0_can a0_could a0_arcRow a0_order a0_isOut v0_thrown v0_nodes v0_arcs v0_takenMany v0_leftBits v0_hasPolynomial v0_hasLists w0_near o_w0_row o_w0_many) (va_A (wd_Mo_search cI cJ cG cZ a0 a0_from a0_to a0_near a0_lists a0_colours a0_shades a0_tints a0_attempt a0_taken a0_isApart a0_ways a0_next a0_splits a0_powers a0_row a0_many a0_can a0_could a0_arcRow a0_order a0_isOut v0_thrown v0_nodes v0_arcs v0_takenMany v0_leftBits v0_hasPolynomial v0_hasLists w0_near w0_row w0_many) sz) t) (va_A (wd_Mo_search cI cJ cG cZ a0 a0_from a0_to a0_near a0_lists a0_colours a0_shades a0_tints a0_attempt a0_taken a0_isApart a0_ways a0_next a0_splits a0_powers a0_row a0_many a0_can a0_could a0_arcRow a0_order a0_isOut v0_thrown v0_nodes v0_arcs v0_takenMany v0_leftBits v0_hasPolynomial v0_hasLists w0_near w0_row w0_many) sz)) 0 0 (va_A (wd_Mo_search cI cJ cG cZ a0 a0_from a0_to a0_near a0_lists a0_colours a0_shades a0_tints a0_attempt a0_taken a0_isApart a0_ways a0_next a0_splits a0_powers a0_row a0_many a0_can a0_could a0_arcRow a0_order a0_isOut v0_thrown v0_nodes v0_arcs v0_takenMany v0_leftBits v0_hasPolynomial v0_hasLists w0_near w0_row w0_many) sz) := by
  refine Met.ofW (cc := prog_10_method_12_code) (maxL := 7) (ret := (some .boolean)) (by decide) rfl ?_
  intro p e s m args below meth c s₁ B hml hv
  obtain ⟨rfl, hsz, hP, hK, hD0, hNw⟩ := hv
  have hx := B.exec
  have hb := B.bytes
  have hr := B.returns
  have htt : ∀ w ∈ gtbl, w.before _ s = true := fun w h => atoms_spec (ws := us_Mo_search) B.pre w (List.mem_cons_of_mem _ h)
  have hown : s.vm.findClass R_Mo = some m.cls := findClass_of_methodNamed B.named
  have hlocks := B.notSynchronized
  subst hsz
  have hD := hD0.self (sz := s.heap.size)
  generalize hAe : va_A (wd_Mo_search cI cJ cG cZ a0 a0_from a0_to a0_near a0_lists a0_colours a0_shades a0_tints a0_attempt a0_taken a0_isApart a0_ways a0_next a0_splits a0_powers a0_row a0_many a0_can a0_could a0_arcRow a0_order a0_isOut v0_thrown v0_nodes v0_arcs v0_takenMany v0_leftBits v0_hasPolynomial v0_hasLists w0_near w0_row w0_many) s.heap.size = A at hD ⊢
  have hA : ∀ q : Nat, s.heap.size ≤ q → A q := fun q h => by rw [← hAe]; exact Or.inr h
  clear hAe hD0
  have hS : va_S A s.heap s.heap [] := va_S.rf
  have hl := lv_entry ([.ref a0, .int p1, .int p2]) (n := 7) (Nat.le_of_ble_eq_true rfl)
  rw [lg_entry_eq]
  generalize (lg_sl ([.ref a0, .int p1, .int p2]) ++ List.replicate (7 - (lg_sl ([.ref a0, .int p1, .int p2])).length) Slot.unset).toArray = ls at hl ⊢
  have hl : lv_has ls 7 [(0, .ref a0), (1, .int p1), (2, .int p2)] := hl
  generalize hH : s.heap = H at hP ⊢
  have hS : va_S A s.heap H [] := hH ▸ hS
  generalize hLo : ([] : List Loc) = locs at hS ⊢
  clear hH hLo
  unfold m_Mo_search at hm
  refine lv_iconst (v := 0) hx hb d_Mo_search_0 (by decide) ?_
  refine lv_istore_n (lv' := [(3, .int 0), (0, .ref a0), (1, .int p1), (2, .int p2)]) hx hb d_Mo_search_1 rfl hl (by decide) rfl (fun ls hl => ?_)
  refine gL_e (P := (fun (z_2 : Int32 × (Nat → Int32)) => ∀ (x3_1 : Int32), ∀ (w0_many_2 : Nat → Int32), z_2 = (x3_1, w0_many_2) → ∀ (ls : Array Slot) (H : Heap) (locs : List Loc), lv_has ls 7 [(0, .ref a0), (1, .int p1), (2, .int p2), (3, .int x3_1)] → va_P (dC, dI) vwCl (wd_Mo_search cI cJ cG cZ a0 a0_from a0_to a0_near a0_lists a0_colours a0_shades a0_tints a0_attempt a0_taken a0_isApart a0_ways a0_next a0_splits a0_powers a0_row a0_many a0_can a0_could a0_arcRow a0_order a0_isOut v0_thrown v0_nodes v0_arcs v0_takenMany v0_leftBits v0_hasPolynomial v0_hasLists w0_near w0_row w0_many_2) H → va_D A (wd_Mo_search cI cJ cG cZ a0 a0_from a0_to a0_near a0_lists a0_colours a0_shades a0_tints a0_attempt a0_taken a0_isApart a0_ways a0_next a0_splits a0_powers a0_row a0_many a0_can a0_could a0_arcRow a0_order a0_isOut v0_thrown v0_nodes v0_arcs v0_takenMany v0_leftBits v0_hasPolynomial v0_hasLists w0_near w0_row w0_many_2) → va_S A s.heap H locs → W p l e (headSpec us_Mo_search rm_Mo_search).room s m ([.ref a0, .int p1, .int p2] : List Value).toArray below meth c H locs 0 0 (MQ below (va_Qi (fun (r : Int32) (_ : Unit) => ret = r ∧ bz r) (fun _ t => PoS (dC, dI) (tyL cI cJ cG cZ) (wd_Mo_search cI cJ cG cZ a0 a0_from a0_to a0_near a0_lists a0_colours a0_shades a0_tints a0_attempt a0_taken a0_isApart a0_ways a0_next a0_splits a0_powers a0_row a0_many a0_can a0_could a0_arcRow a0_order a0_isOut v0_thrown v0_nodes v0_arcs v0_takenMany v0_leftBits v0_hasPolynomial v0_hasLists w0_near o_w0_row o_w0_many) A t) A) ([.ref a0, .int p1, .int p2] : List Value).toArray s 0 0 A) (F0 m 2 ls []))) hm (fun k_2 z_2 ih_2 hm => ?_) _ _ rfl ls H locs (lv_sub hl [1, 2, 3, 0] rfl) hP hD hS
  intro x3_1 w0_many_2 hz ls H locs hl hP hD hS
  subst hz
  dsimp only at hm
  refine lv_iload_n hx hb d_Mo_search_2 rfl (lv_at hl 3 rfl) ?_
  refine lv_bipush (v := 12) hx hb d_Mo_search_3 (by decide) ?_
  refine lv_icmp_ge (tgt := 21) hx hb d_Mo_search_5 (by decide) (fun c_3 => ?_) (fun c_3 => ?_)
  · have hm := ite_t c_3 hm
    refine lv_iconst (v := 0) hx hb d_Mo_search_21 (by decide) ?_
    refine lv_istore_n (lv' := [(3, .int 0), (0, .ref a0), (1, .int p1), (2, .int p2)]) hx hb d_Mo_search_22 rfl hl (by decide) rfl (fun ls hl => ?_)
    refine lv_iconst (v := 0) hx hb d_Mo_search_23 (by decide) ?_
    refine lv_istore (lv' := [(4, .int 0), (3, .int 0), (0, .ref a0), (1, .int p1), (2, .int p2)]) hx hb d_Mo_search_24 hl (by decide) rfl (fun ls hl => ?_)
    refine gL_e (P := (fun (z_26 : Int32 × Int32 × (Nat → Int32) × (Nat → Int32)) => ∀ (x3_4 : Int32), ∀ (x4_5 : Int32), ∀ (w0_row_6 : Nat → Int32), ∀ (w0_many_7 : Nat → Int32), z_26 = (x3_4, x4_5, w0_row_6, w0_many_7) → ∀ (ls : Array Slot) (H : Heap) (locs : List Loc), lv_has ls 7 [(0, .ref a0), (1, .int p1), (2, .int p2), (3, .int x3_4), (4, .int x4_5)] → va_P (dC, dI) vwCl (wd_Mo_search cI cJ cG cZ a0 a0_from a0_to a0_near a0_lists a0_colours a0_shades a0_tints a0_attempt a0_taken a0_isApart a0_ways a0_next a0_splits a0_powers a0_row a0_many a0_can a0_could a0_arcRow a0_order a0_isOut v0_thrown v0_nodes v0_arcs v0_takenMany v0_leftBits v0_hasPolynomial v0_hasLists w0_near w0_row_6 w0_many_7) H → va_D A (wd_Mo_search cI cJ cG cZ a0 a0_from a0_to a0_near a0_lists a0_colours a0_shades a0_tints a0_attempt a0_taken a0_isApart a0_ways a0_next a0_splits a0_powers a0_row a0_many a0_can a0_could a0_arcRow a0_order a0_isOut v0_thrown v0_nodes v0_arcs v0_takenMany v0_leftBits v0_hasPolynomial v0_hasLists w0_near w0_row_6 w0_many_7) → va_S A s.heap H locs → W p l e (headSpec us_Mo_search rm_Mo_search).room s m ([.ref a0, .int p1, .int p2] : List Value).toArray below meth c H locs 0 0 (MQ below (va_Qi (fun (r : Int32) (_ : Unit) => ret = r ∧ bz r) (fun _ t => PoS (dC, dI) (tyL cI cJ cG cZ) (wd_Mo_search cI cJ cG cZ a0 a0_from a0_to a0_near a0_lists a0_colours a0_shades a0_tints a0_attempt a0_taken a0_isApart a0_ways a0_next a0_splits a0_powers a0_row a0_many a0_can a0_could a0_arcRow a0_order a0_isOut v0_thrown v0_nodes v0_arcs v0_takenMany v0_leftBits v0_hasPolynomial v0_hasLists w0_near o_w0_row o_w0_many) A t) A) ([.ref a0, .int p1, .int p2] : List Value).toArray s 0 0 A) (F0 m 26 ls []))) hm (fun k_26 z_26 ih_26 hm => ?_) _ _ _ _ rfl ls H locs (lv_sub hl [2, 3, 4, 1, 0] rfl) hP hD hS
    intro x3_4 x4_5 w0_row_6 w0_many_7 hz ls H locs hl hP hD hS
    subst hz
    dsimp only at hm
    refine lv_iload_n hx hb d_Mo_search_26 rfl (lv_at hl 3 rfl) ?_
    obtain ⟨J_175, hJ_175, hm⟩ := gB_x hm
    have jp_175 : ∀ (ls : Array Slot) (H : Heap) (locs : List Loc), J_175 = some (ret, o_w0_row, o_w0_many) → lv_has ls 7 [(0, .ref a0), (3, .int x3_4)] → va_P (dC, dI) vwCl (wd_Mo_search cI cJ cG cZ a0 a0_from a0_to a0_near a0_lists a0_colours a0_shades a0_tints a0_attempt a0_taken a0_isApart a0_ways a0_next a0_splits a0_powers a0_row a0_many a0_can a0_could a0_arcRow a0_order a0_isOut v0_thrown v0_nodes v0_arcs v0_takenMany v0_leftBits v0_hasPolynomial v0_hasLists w0_near w0_row_6 w0_many_7) H → va_D A (wd_Mo_search cI cJ cG cZ a0 a0_from a0_to a0_near a0_lists a0_colours a0_shades a0_tints a0_attempt a0_taken a0_isApart a0_ways a0_next a0_splits a0_powers a0_row a0_many a0_can a0_could a0_arcRow a0_order a0_isOut v0_thrown v0_nodes v0_arcs v0_takenMany v0_leftBits v0_hasPolynomial v0_hasLists w0_near w0_row_6 w0_many_7) → va_S A s.heap H locs → W p l e (headSpec us_Mo_search rm_Mo_search).room s m ([.ref a0, .int p1, .int p2] : List Value).toArray below meth c H locs 0 0 (MQ below (va_Qi (fun (r : Int32) (_ : Unit) => ret = r ∧ bz r) (fun _ t => PoS (dC, dI) (tyL cI cJ cG cZ) (wd_Mo_search cI cJ cG cZ a0 a0_from a0_to a0_near a0_lists a0_colours a0_shades a0_tints a0_attempt a0_taken a0_isApart a0_ways a0_next a0_splits a0_powers a0_row a0_many a0_can a0_could a0_arcRow a0_order a0_isOut v0_thrown v0_nodes v0_arcs v0_takenMany v0_leftBits v0_hasPolynomial v0_hasLists w0_near o_w0_row o_w0_many) A t) A) ([.ref a0, .int p1, .int p2] : List Value).toArray s 0 0 A) (F0 m 175 ls []) := by
      intro ls H locs hm hl hP hD hS
      have hm := jn0 hJ_175 hm
      refine lv_iload_n hx hb d_Mo_search_175 rfl (lv_at hl 1 rfl) ?_
      refine lv_aload_n hx hb d_Mo_search_176 rfl (lv_at hl 0 rfl) ?_
      refine va_get (D := (dC, dI)) (ci := 8) (v := .int v0_nodes) (C := R_Mo) (T := T_Mo) (N := 28) hx hb htt hin_Mo hown hK hP 0 rfl rfl 1 (by decide) (htt _ kt_770) (fun _ h9 => h9) rfl d_Mo_search_177 ?_
      refine lv_icmp_ne (tgt := 187) hx hb d_Mo_search_180 (by decide) (fun c_8 => ?_) (fun c_8 => ?_)
      · have hm := ite_f c_8 hm
        refine lv_iconst (v := 0) hx hb d_Mo_search_187 (by decide) ?_
        cases hm
        exact W.zret (ty := .boolean) hx hb hr (bz_nar (by decide : bz 0)) (fun t ht hW => ⟨⟨_, (), rfl, ⟨rfl, (by decide : bz 0)⟩, by rw [ht]; exact hP, va_K.moved hW.alike hK, hD⟩, hS.F ht⟩) hS.2.2 d_Mo_search_188
      · have hm := ite_t c_8 hm
        refine lv_iconst (v := 1) hx hb d_Mo_search_183 (by decide) ?_
        refine lv_goto (tgt := 188) hx hb d_Mo_search_184 (by decide) ?_
        cases hm
        exact W.zret (ty := .boolean) hx hb hr (bz_nar (by decide : bz 1)) (fun t ht hW => ⟨⟨_, (), rfl, ⟨rfl, (by decide : bz 1)⟩, by rw [ht]; exact hP, va_K.moved hW.alike hK, hD⟩, hS.F ht⟩) hS.2.2 d_Mo_search_188
    clear hJ_175
    refine lv_if_lt (tgt := 175) hx hb d_Mo_search_27 (by decide) (fun c_9 => ?_) (fun c_9 => ?_)
    · have hm := ite_t c_9 hm
      exact jp_175 ls H locs hm (lv_sub hl [0, 3] rfl) hP hD hS
    · have hm := ite_f c_9 hm
      refine lv_iload_n hx hb d_Mo_search_30 rfl (lv_at hl 3 rfl) ?_
      refine lv_aload_n hx hb d_Mo_search_31 rfl (lv_at hl 0 rfl) ?_
      refine va_get (D := (dC, dI)) (ci := 8) (v := .int v0_nodes) (C := R_Mo) (T := T_Mo) (N := 28) hx hb htt hin_Mo hown hK hP 0 rfl rfl 1 (by decide) (htt _ kt_770) (fun _ h9 => h9) rfl d_Mo_search_32 ?_
      refine lv_icmp_ge (tgt := 175) hx hb d_Mo_search_35 (by decide) (fun c_10 => ?_) (fun c_10 => ?_)
      · have hm := ite_t c_10 hm
        exact jp_175 ls H locs hm (lv_sub hl [0, 3] rfl) hP hD hS
      · have hm := ite_f c_10 hm
        refine lv_iload hx hb d_Mo_search_38 (lv_at hl 4 rfl) ?_
        refine lv_istore (lv' := [(5, .int x4_5), (0, .ref a0), (1, .int p1), (2, .int p2), (3, .int x3_4), (4, .int x4_5)]) hx hb d_Mo_search_40 hl (by decide) rfl (fun ls hl => ?_)
        refine gL_e (P := (fun (z_42 : Int32) => ∀ (x5_11 : Int32), x5_11 = z_42 → ∀ (ls : Array Slot) (H : Heap) (locs : List Loc), lv_has ls 7 [(0, .ref a0), (1, .int p1), (2, .int p2), (3, .int x3_4), (4, .int x4_5), (5, .int x5_11)] → va_P (dC, dI) vwCl (wd_Mo_search cI cJ cG cZ a0 a0_from a0_to a0_near a0_lists a0_colours a0_shades a0_tints a0_attempt a0_taken a0_isApart a0_ways a0_next a0_splits a0_powers a0_row a0_many a0_can a0_could a0_arcRow a0_order a0_isOut v0_thrown v0_nodes v0_arcs v0_takenMany v0_leftBits v0_hasPolynomial v0_hasLists w0_near w0_row_6 w0_many_7) H → va_D A (wd_Mo_search cI cJ cG cZ a0 a0_from a0_to a0_near a0_lists a0_colours a0_shades a0_tints a0_attempt a0_taken a0_isApart a0_ways a0_next a0_splits a0_powers a0_row a0_many a0_can a0_could a0_arcRow a0_order a0_isOut v0_thrown v0_nodes v0_arcs v0_takenMany v0_leftBits v0_hasPolynomial v0_hasLists w0_near w0_row_6 w0_many_7) → va_S A s.heap H locs → W p l e (headSpec us_Mo_search rm_Mo_search).room s m ([.ref a0, .int p1, .int p2] : List Value).toArray below meth c H locs 0 0 (MQ below (va_Qi (fun (r : Int32) (_ : Unit) => ret = r ∧ bz r) (fun _ t => PoS (dC, dI) (tyL cI cJ cG cZ) (wd_Mo_search cI cJ cG cZ a0 a0_from a0_to a0_near a0_lists a0_colours a0_shades a0_tints a0_attempt a0_taken a0_isApart a0_ways a0_next a0_splits a0_powers a0_row a0_many a0_can a0_could a0_arcRow a0_order a0_isOut v0_thrown v0_nodes v0_arcs v0_takenMany v0_leftBits v0_hasPolynomial v0_hasLists w0_near o_w0_row o_w0_many) A t) A) ([.ref a0, .int p1, .int p2] : List Value).toArray s 0 0 A) (F0 m 42 ls []))) hm (fun k_42 z_42 ih_42 hm => ?_) _ rfl ls H locs (lv_sub hl [1, 2, 3, 4, 5, 0] rfl) hP hD hS
        intro x5_11 hz ls H locs hl hP hD hS
        subst hz
        refine lv_iload hx hb d_Mo_search_42 (lv_at hl 5 rfl) ?_
        refine lv_iload_n hx hb d_Mo_search_44 rfl (lv_at hl 1 rfl) ?_
        obtain ⟨J_78, hJ_78, hm⟩ := gB_x hm
        have jp_78 : ∀ (ls : Array Slot) (H : Heap) (locs : List Loc), J_78 = some (ret, o_w0_row, o_w0_many) → lv_has ls 7 [(0, .ref a0), (1, .int p1), (2, .int p2), (3, .int x3_4), (4, .int x4_5), (5, .int x5_11)] → va_P (dC, dI) vwCl (wd_Mo_search cI cJ cG cZ a0 a0_from a0_to a0_near a0_lists a0_colours a0_shades a0_tints a0_attempt a0_taken a0_isApart a0_ways a0_next a0_splits a0_powers a0_row a0_many a0_can a0_could a0_arcRow a0_order a0_isOut v0_thrown v0_nodes v0_arcs v0_takenMany v0_leftBits v0_hasPolynomial v0_hasLists w0_near w0_row_6 w0_many_7) H → va_D A (wd_Mo_search cI cJ cG cZ a0 a0_from a0_to a0_near a0_lists a0_colours a0_shades a0_tints a0_attempt a0_taken a0_isApart a0_ways a0_next a0_splits a0_powers a0_row a0_many a0_can a0_could a0_arcRow a0_order a0_isOut v0_thrown v0_nodes v0_arcs v0_takenMany v0_leftBits v0_hasPolynomial v0_hasLists w0_near w0_row_6 w0_many_7) → va_S A s.heap H locs → W p l e (headSpec us_Mo_search rm_Mo_search).room s m ([.ref a0, .int p1, .int p2] : List Value).toArray below meth c H locs 0 0 (MQ below (va_Qi (fun (r : Int32) (_ : Unit) => ret = r ∧ bz r) (fun _ t => PoS (dC, dI) (tyL cI cJ cG cZ) (wd_Mo_search cI cJ cG cZ a0 a0_from a0_to a0_near a0_lists a0_colours a0_shades a0_tints a0_attempt a0_taken a0_isApart a0_ways a0_next a0_splits a0_powers a0_row a0_many a0_can a0_could a0_arcRow a0_order a0_isOut v0_thrown v0_nodes v0_arcs v0_takenMany v0_leftBits v0_hasPolynomial v0_hasLists w0_near o_w0_row o_w0_many) A t) A) ([.ref a0, .int p1, .int p2] : List Value).toArray s 0 0 A) (F0 m 78 ls []) := by
          intro ls H locs hm hl hP hD hS
          have hm := jn0 hJ_78 hm
          refine lv_iload hx hb d_Mo_search_78 (lv_at hl 5 rfl) ?_
          refine lv_iload_n hx hb d_Mo_search_80 rfl (lv_at hl 1 rfl) ?_
          obtain ⟨J_99, hJ_99, hm⟩ := gB_x hm
          have jp_99 : ∀ (s_12 : Int32) (ls : Array Slot) (H : Heap) (locs : List Loc), J_99 s_12 = some (ret, o_w0_row, o_w0_many) → lv_has ls 7 [(0, .ref a0), (1, .int p1), (2, .int p2), (3, .int x3_4), (4, .int x4_5), (5, .int x5_11)] → va_P (dC, dI) vwCl (wd_Mo_search cI cJ cG cZ a0 a0_from a0_to a0_near a0_lists a0_colours a0_shades a0_tints a0_attempt a0_taken a0_isApart a0_ways a0_next a0_splits a0_powers a0_row a0_many a0_can a0_could a0_arcRow a0_order a0_isOut v0_thrown v0_nodes v0_arcs v0_takenMany v0_leftBits v0_hasPolynomial v0_hasLists w0_near w0_row_6 w0_many_7) H → va_D A (wd_Mo_search cI cJ cG cZ a0 a0_from a0_to a0_near a0_lists a0_colours a0_shades a0_tints a0_attempt a0_taken a0_isApart a0_ways a0_next a0_splits a0_powers a0_row a0_many a0_can a0_could a0_arcRow a0_order a0_isOut v0_thrown v0_nodes v0_arcs v0_takenMany v0_leftBits v0_hasPolynomial v0_hasLists w0_near w0_row_6 w0_many_7) → va_S A s.heap H locs → W p l e (headSpec us_Mo_search rm_Mo_search).room s m ([.ref a0, .int p1, .int p2] : List Value).toArray below meth c H locs 0 0 (MQ below (va_Qi (fun (r : Int32) (_ : Unit) => ret = r ∧ bz r) (fun _ t => PoS (dC, dI) (tyL cI cJ cG cZ) (wd_Mo_search cI cJ cG cZ a0 a0_from a0_to a0_near a0_lists a0_colours a0_shades a0_tints a0_attempt a0_taken a0_isApart a0_ways a0_next a0_splits a0_powers a0_row a0_many a0_can a0_could a0_arcRow a0_order a0_isOut v0_thrown v0_nodes v0_arcs v0_takenMany v0_leftBits v0_hasPolynomial v0_hasLists w0_near o_w0_row o_w0_many) A t) A) ([.ref a0, .int p1, .int p2] : List Value).toArray s 0 0 A) (F0 m 99 ls [.int s_12]) := by
            intro s_12 ls H locs hm hl hP hD hS
            have hm := jn1 hJ_99 hm
            refine lv_istore (lv' := [(6, .int s_12), (0, .ref a0), (1, .int p1), (2, .int p2), (3, .int x3_4), (4, .int x4_5), (5, .int x5_11)]) hx hb d_Mo_search_99 hl (by decide) rfl (fun ls hl => ?_)
            refine lv_iload hx hb d_Mo_search_101 (lv_at hl 6 rfl) ?_
            refine lv_iload_n hx hb d_Mo_search_103 rfl (lv_at hl 2 rfl) ?_
            obtain ⟨J_140, hJ_140, hm⟩ := gB_x hm
            have jp_140 : ∀ (ls : Array Slot) (H : Heap) (locs : List Loc), J_140 = some (ret, o_w0_row, o_w0_many) → lv_has ls 7 [(0, .ref a0), (1, .int p1), (2, .int p2), (3, .int x3_4), (4, .int x4_5)] → va_P (dC, dI) vwCl (wd_Mo_search cI cJ cG cZ a0 a0_from a0_to a0_near a0_lists a0_colours a0_shades a0_tints a0_attempt a0_taken a0_isApart a0_ways a0_next a0_splits a0_powers a0_row a0_many a0_can a0_could a0_arcRow a0_order a0_isOut v0_thrown v0_nodes v0_arcs v0_takenMany v0_leftBits v0_hasPolynomial v0_hasLists w0_near w0_row_6 w0_many_7) H → va_D A (wd_Mo_search cI cJ cG cZ a0 a0_from a0_to a0_near a0_lists a0_colours a0_shades a0_tints a0_attempt a0_taken a0_isApart a0_ways a0_next a0_splits a0_powers a0_row a0_many a0_can a0_could a0_arcRow a0_order a0_isOut v0_thrown v0_nodes v0_arcs v0_takenMany v0_leftBits v0_hasPolynomial v0_hasLists w0_near w0_row_6 w0_many_7) → va_S A s.heap H locs → W p l e (headSpec us_Mo_search rm_Mo_search).room s m ([.ref a0, .int p1, .int p2] : List Value).toArray below meth c H locs 0 0 (MQ below (va_Qi (fun (r : Int32) (_ : Unit) => ret = r ∧ bz r) (fun _ t => PoS (dC, dI) (tyL cI cJ cG cZ) (wd_Mo_search cI cJ cG cZ a0 a0_from a0_to a0_near a0_lists a0_colours a0_shades a0_tints a0_attempt a0_taken a0_isApart a0_ways a0_next a0_splits a0_powers a0_row a0_many a0_can a0_could a0_arcRow a0_order a0_isOut v0_thrown v0_nodes v0_arcs v0_takenMany v0_leftBits v0_hasPolynomial v0_hasLists w0_near o_w0_row o_w0_many) A t) A) ([.ref a0, .int p1, .int p2] : List Value).toArray s 0 0 A) (F0 m 140 ls []) := by
              intro ls H locs hm hl hP hD hS
              have hm := jn0 hJ_140 hm
              obtain ⟨x3_13, ex3_13⟩ : ∃ y : Int32, y = x3_4 + (-1) := ⟨_, rfl⟩
              have hm := gB_at ex3_13 hm
              refine lv_iinc (v := x3_13) (lv' := [(3, .int x3_13), (0, .ref a0), (1, .int p1), (2, .int p2), (4, .int x4_5)]) hx hb d_Mo_search_140 hl (k := 3) rfl (by rw [ex3_13]; rfl) (by decide) rfl (fun ls hl => ?_)
              refine lv_iload_n hx hb d_Mo_search_143 rfl (lv_at hl 0 rfl) ?_
              refine lv_if_lt (tgt := 172) hx hb d_Mo_search_144 (by decide) (fun c_14 => ?_) (fun c_14 => ?_)
              · have hm := ite_t c_14 hm
                refine lv_goto (tgt := 26) hx hb d_Mo_search_172 (by decide) ?_
                exact ih_26 _ hm _ _ _ _ rfl ls H locs (lv_sub hl [1, 2, 3, 0, 4] rfl) hP hD hS
              · have hm := ite_f c_14 hm
                refine lv_aload_n hx hb d_Mo_search_147 rfl (lv_at hl 1 rfl) ?_
                refine va_get (D := (dC, dI)) (ci := 8) (v := .ref a0_many) (C := R_Mo) (T := T_Mo) (N := 28) hx hb htt hin_Mo hown hK hP 0 rfl rfl 20 (by decide) (htt _ kt_789) (fun _ h9 => h9) rfl d_Mo_search_148 ?_
                refine lv_aload_n hx hb d_Mo_search_151 rfl (lv_at hl 1 rfl) ?_
                refine va_get (D := (dC, dI)) (ci := 8) (v := .ref a0_row) (C := R_Mo) (T := T_Mo) (N := 28) hx hb htt hin_Mo hown hK hP 0 rfl rfl 19 (by decide) (htt _ kt_788) (fun _ h9 => h9) rfl d_Mo_search_152 ?_
                refine lv_iload_n hx hb d_Mo_search_155 rfl (lv_at hl 0 rfl) ?_
                obtain ⟨hi_15, hm⟩ := gC_e hm
                refine va_iald hx hb hK hP 2 0 rfl rfl (inb_vp hi_15) d_Mo_search_156 ?_
                refine lv_dup2_11 hx hb d_Mo_search_157 rfl rfl ?_
                obtain ⟨hi_16, hm⟩ := gC_e hm
                refine va_iald hx hb hK hP 3 0 rfl rfl (inb_vp hi_16) d_Mo_search_158 ?_
                refine lv_iconst (v := 1) hx hb d_Mo_search_159 (by decide) ?_
                refine lv_isub hx hb d_Mo_search_160 ?_
                obtain ⟨hi_17, hm⟩ := gC_e hm
                refine va_iast hx hb hK hP hD hS 3 0 rfl rfl (inb_vp hi_17) d_Mo_search_161 (fun H locs hP hD hS => ?_)
                have hP : va_P (dC, dI) vwCl (wd_Mo_search cI cJ cG cZ a0 a0_from a0_to a0_near a0_lists a0_colours a0_shades a0_tints a0_attempt a0_taken a0_isApart a0_ways a0_next a0_splits a0_powers a0_row a0_many a0_can a0_could a0_arcRow a0_order a0_isOut v0_thrown v0_nodes v0_arcs v0_takenMany v0_leftBits v0_hasPolynomial v0_hasLists w0_near w0_row_6 (upd w0_many_7 (w0_row_6 x3_13.toNatClampNeg).toNatClampNeg ((w0_many_7 (w0_row_6 x3_13.toNatClampNeg).toNatClampNeg) - 1))) H := hP
                have hD : va_D A (wd_Mo_search cI cJ cG cZ a0 a0_from a0_to a0_near a0_lists a0_colours a0_shades a0_tints a0_attempt a0_taken a0_isApart a0_ways a0_next a0_splits a0_powers a0_row a0_many a0_can a0_could a0_arcRow a0_order a0_isOut v0_thrown v0_nodes v0_arcs v0_takenMany v0_leftBits v0_hasPolynomial v0_hasLists w0_near w0_row_6 (upd w0_many_7 (w0_row_6 x3_13.toNatClampNeg).toNatClampNeg ((w0_many_7 (w0_row_6 x3_13.toNatClampNeg).toNatClampNeg) - 1))) := hD
                refine lv_aload_n hx hb d_Mo_search_162 rfl (lv_at hl 1 rfl) ?_
                refine va_get (D := (dC, dI)) (ci := 8) (v := .ref a0_row) (C := R_Mo) (T := T_Mo) (N := 28) hx hb htt hin_Mo hown hK hP 0 rfl rfl 19 (by decide) (htt _ kt_788) (fun _ h9 => h9) rfl d_Mo_search_163 ?_
                refine lv_iload_n hx hb d_Mo_search_166 rfl (lv_at hl 0 rfl) ?_
                obtain ⟨hi_18, hm⟩ := gC_e hm
                refine va_iald hx hb hK hP 2 0 rfl rfl (inb_vp hi_18) d_Mo_search_167 ?_
                refine lv_iconst (v := 1) hx hb d_Mo_search_168 (by decide) ?_
                refine lv_iadd hx hb d_Mo_search_169 ?_
                refine lv_topi (fun x4_19 ex4_19 => ?_)
                have hm := gB_at ex4_19 hm
                refine lv_istore (lv' := [(4, .int x4_19), (3, .int x3_13), (0, .ref a0), (1, .int p1), (2, .int p2)]) hx hb d_Mo_search_170 hl (by decide) rfl (fun ls hl => ?_)
                refine lv_goto (tgt := 26) hx hb d_Mo_search_172 (by decide) ?_
                exact ih_26 _ hm _ _ _ _ rfl ls H locs (lv_sub hl [2, 3, 4, 1, 0] rfl) hP hD hS
            clear hJ_140
            refine lv_icmp_ge (tgt := 140) hx hb d_Mo_search_104 (by decide) (fun c_20 => ?_) (fun c_20 => ?_)
            · have hm := ite_t c_20 hm
              exact jp_140 ls H locs hm (lv_sub hl [1, 2, 3, 4, 5] rfl) hP hD hS
            · have hm := ite_f c_20 hm
              refine lv_iload hx hb d_Mo_search_107 (lv_at hl 0 rfl) ?_
              refine lv_if_ne (tgt := 140) hx hb d_Mo_search_109 (by decide) (fun c_21 => ?_) (fun c_21 => ?_)
              · have hm := ite_f c_21 hm
                exact jp_140 ls H locs hm (lv_sub hl [1, 2, 3, 4, 5] rfl) hP hD hS
              · have hm := ite_t c_21 hm
                refine lv_aload_n hx hb d_Mo_search_112 rfl (lv_at hl 1 rfl) ?_
                refine va_get (D := (dC, dI)) (ci := 8) (v := .ref a0_row) (C := R_Mo) (T := T_Mo) (N := 28) hx hb htt hin_Mo hown hK hP 0 rfl rfl 19 (by decide) (htt _ kt_788) (fun _ h9 => h9) rfl d_Mo_search_113 ?_
                refine lv_iload_n hx hb d_Mo_search_116 rfl (lv_at hl 4 rfl) ?_
                refine lv_iload hx hb d_Mo_search_117 (lv_at hl 6 rfl) ?_
                obtain ⟨hi_22, hm⟩ := gC_e hm
                refine va_iast hx hb hK hP hD hS 2 0 rfl rfl (inb_vp hi_22) d_Mo_search_119 (fun H locs hP hD hS => ?_)
                have hP : va_P (dC, dI) vwCl (wd_Mo_search cI cJ cG cZ a0 a0_from a0_to a0_near a0_lists a0_colours a0_shades a0_tints a0_attempt a0_taken a0_isApart a0_ways a0_next a0_splits a0_powers a0_row a0_many a0_can a0_could a0_arcRow a0_order a0_isOut v0_thrown v0_nodes v0_arcs v0_takenMany v0_leftBits v0_hasPolynomial v0_hasLists w0_near (upd w0_row_6 x3_4.toNatClampNeg x5_11) w0_many_7) H := hP
                have hD : va_D A (wd_Mo_search cI cJ cG cZ a0 a0_from a0_to a0_near a0_lists a0_colours a0_shades a0_tints a0_attempt a0_taken a0_isApart a0_ways a0_next a0_splits a0_powers a0_row a0_many a0_can a0_could a0_arcRow a0_order a0_isOut v0_thrown v0_nodes v0_arcs v0_takenMany v0_leftBits v0_hasPolynomial v0_hasLists w0_near (upd w0_row_6 x3_4.toNatClampNeg x5_11) w0_many_7) := hD
                refine lv_aload_n hx hb d_Mo_search_120 rfl (lv_at hl 1 rfl) ?_
                refine va_get (D := (dC, dI)) (ci := 8) (v := .ref a0_many) (C := R_Mo) (T := T_Mo) (N := 28) hx hb htt hin_Mo hown hK hP 0 rfl rfl 20 (by decide) (htt _ kt_789) (fun _ h9 => h9) rfl d_Mo_search_121 ?_
                refine lv_iload hx hb d_Mo_search_124 (lv_at hl 6 rfl) ?_
                refine lv_dup2_11 hx hb d_Mo_search_126 rfl rfl ?_
                obtain ⟨hi_23, hm⟩ := gC_e hm
                refine va_iald hx hb hK hP 3 0 rfl rfl (inb_vp hi_23) d_Mo_search_127 ?_
                refine lv_iconst (v := 1) hx hb d_Mo_search_128 (by decide) ?_
                refine lv_iadd hx hb d_Mo_search_129 ?_
                obtain ⟨hi_24, hm⟩ := gC_e hm
                refine va_iast hx hb hK hP hD hS 3 0 rfl rfl (inb_vp hi_24) d_Mo_search_130 (fun H locs hP hD hS => ?_)
                have hP : va_P (dC, dI) vwCl (wd_Mo_search cI cJ cG cZ a0 a0_from a0_to a0_near a0_lists a0_colours a0_shades a0_tints a0_attempt a0_taken a0_isApart a0_ways a0_next a0_splits a0_powers a0_row a0_many a0_can a0_could a0_arcRow a0_order a0_isOut v0_thrown v0_nodes v0_arcs v0_takenMany v0_leftBits v0_hasPolynomial v0_hasLists w0_near (upd w0_row_6 x3_4.toNatClampNeg x5_11) (upd w0_many_7 x5_11.toNatClampNeg ((w0_many_7 x5_11.toNatClampNeg) + 1))) H := hP
                have hD : va_D A (wd_Mo_search cI cJ cG cZ a0 a0_from a0_to a0_near a0_lists a0_colours a0_shades a0_tints a0_attempt a0_taken a0_isApart a0_ways a0_next a0_splits a0_powers a0_row a0_many a0_can a0_could a0_arcRow a0_order a0_isOut v0_thrown v0_nodes v0_arcs v0_takenMany v0_leftBits v0_hasPolynomial v0_hasLists w0_near (upd w0_row_6 x3_4.toNatClampNeg x5_11) (upd w0_many_7 x5_11.toNatClampNeg ((w0_many_7 x5_11.toNatClampNeg) + 1))) := hD
                obtain ⟨x3_25, ex3_25⟩ : ∃ y : Int32, y = x3_4 + 1 := ⟨_, rfl⟩
                have hm := gB_at ex3_25 hm
                refine lv_iinc (v := x3_25) (lv' := [(3, .int x3_25), (6, .int s_12), (0, .ref a0), (1, .int p1), (2, .int p2), (4, .int x4_5), (5, .int x5_11)]) hx hb d_Mo_search_131 hl (k := 4) rfl (by rw [ex3_25]; rfl) (by decide) rfl (fun ls hl => ?_)
                refine lv_iconst (v := 0) hx hb d_Mo_search_134 (by decide) ?_
                refine lv_istore (lv' := [(4, .int 0), (3, .int x3_25), (6, .int s_12), (0, .ref a0), (1, .int p1), (2, .int p2), (5, .int x5_11)]) hx hb d_Mo_search_135 hl (by decide) rfl (fun ls hl => ?_)
                refine lv_goto (tgt := 172) hx hb d_Mo_search_137 (by decide) ?_
                refine lv_goto (tgt := 26) hx hb d_Mo_search_172 (by decide) ?_
                exact ih_26 _ hm _ _ _ _ rfl ls H locs (lv_sub hl [3, 4, 5, 1, 0] rfl) hP hD hS
          clear hJ_99
          obtain ⟨J_98, hJ_98, hm⟩ := gB_x hm
          have jp_98 : ∀ (ls : Array Slot) (H : Heap) (locs : List Loc), J_98 = some (ret, o_w0_row, o_w0_many) → lv_has ls 7 [(0, .ref a0), (1, .int p1), (2, .int p2), (3, .int x3_4), (4, .int x4_5), (5, .int x5_11)] → va_P (dC, dI) vwCl (wd_Mo_search cI cJ cG cZ a0 a0_from a0_to a0_near a0_lists a0_colours a0_shades a0_tints a0_attempt a0_taken a0_isApart a0_ways a0_next a0_splits a0_powers a0_row a0_many a0_can a0_could a0_arcRow a0_order a0_isOut v0_thrown v0_nodes v0_arcs v0_takenMany v0_leftBits v0_hasPolynomial v0_hasLists w0_near w0_row_6 w0_many_7) H → va_D A (wd_Mo_search cI cJ cG cZ a0 a0_from a0_to a0_near a0_lists a0_colours a0_shades a0_tints a0_attempt a0_taken a0_isApart a0_ways a0_next a0_splits a0_powers a0_row a0_many a0_can a0_could a0_arcRow a0_order a0_isOut v0_thrown v0_nodes v0_arcs v0_takenMany v0_leftBits v0_hasPolynomial v0_hasLists w0_near w0_row_6 w0_many_7) → va_S A s.heap H locs → W p l e (headSpec us_Mo_search rm_Mo_search).room s m ([.ref a0, .int p1, .int p2] : List Value).toArray below meth c H locs 0 0 (MQ below (va_Qi (fun (r : Int32) (_ : Unit) => ret = r ∧ bz r) (fun _ t => PoS (dC, dI) (tyL cI cJ cG cZ) (wd_Mo_search cI cJ cG cZ a0 a0_from a0_to a0_near a0_lists a0_colours a0_shades a0_tints a0_attempt a0_taken a0_isApart a0_ways a0_next a0_splits a0_powers a0_row a0_many a0_can a0_could a0_arcRow a0_order a0_isOut v0_thrown v0_nodes v0_arcs v0_takenMany v0_leftBits v0_hasPolynomial v0_hasLists w0_near o_w0_row o_w0_many) A t) A) ([.ref a0, .int p1, .int p2] : List Value).toArray s 0 0 A) (F0 m 98 ls []) := by
            intro ls H locs hm hl hP hD hS
            have hm := jn0 hJ_98 hm
            refine lv_iconst (v := 0) hx hb d_Mo_search_98 (by decide) ?_
            exact jp_99 _ ls H locs hm (lv_sub hl [0, 1, 2, 3, 4, 5] rfl) hP hD hS
          clear hJ_98
          refine lv_icmp_ge (tgt := 98) hx hb d_Mo_search_81 (by decide) (fun c_26 => ?_) (fun c_26 => ?_)
          · have hm := ite_t c_26 hm
            exact jp_98 ls H locs hm (lv_sub hl [0, 1, 2, 3, 4, 5] rfl) hP hD hS
          · have hm := ite_f c_26 hm
            refine lv_aload_n hx hb d_Mo_search_84 rfl (lv_at hl 0 rfl) ?_
            refine lv_iload_n hx hb d_Mo_search_85 rfl (lv_at hl 3 rfl) ?_
            refine lv_iload hx hb d_Mo_search_86 (lv_at hl 5 rfl) ?_
            obtain ⟨q_27, hc_28, hm⟩ := gM_e hm
            have hPc : va_P (dC, dI) vwCl (wd_Mo_isNewTwice cI cJ cG cZ a0 a0_from a0_to a0_near a0_lists a0_colours a0_shades a0_tints a0_attempt a0_taken a0_isApart a0_ways a0_next a0_splits a0_powers a0_row a0_many a0_can a0_could a0_arcRow a0_order a0_isOut v0_thrown v0_nodes v0_arcs v0_takenMany v0_leftBits v0_hasPolynomial v0_hasLists w0_row_6) H := hP.sub [0, 2] rfl
            have hDc : va_D A (wd_Mo_isNewTwice cI cJ cG cZ a0 a0_from a0_to a0_near a0_lists a0_colours a0_shades a0_tints a0_attempt a0_taken a0_isApart a0_ways a0_next a0_splits a0_powers a0_row a0_many a0_can a0_could a0_arcRow a0_order a0_isOut v0_thrown v0_nodes v0_arcs v0_takenMany v0_leftBits v0_hasPolynomial v0_hasLists w0_row_6) := hD.sub [0, 2] (by decide) rfl
            have hFc : ∀ q, va_A (wd_Mo_isNewTwice cI cJ cG cZ a0 a0_from a0_to a0_near a0_lists a0_colours a0_shades a0_tints a0_attempt a0_taken a0_isApart a0_ways a0_next a0_splits a0_powers a0_row a0_many a0_can a0_could a0_arcRow a0_order a0_isOut v0_thrown v0_nodes v0_arcs v0_takenMany v0_leftBits v0_hasPolynomial v0_hasLists w0_row_6) H.size q → A q := va_free hD hS hA [0, 2] rfl
            refine va_calli (va_runV (As := [.int x3_4, .int x5_11]) (rest := []) ⟨hx, hb, hml, hown, htt⟩ (c_Mo_isNewTwice l dC dI cI cJ cG cZ a0 a0_from a0_to a0_near a0_lists a0_colours a0_shades a0_tints a0_attempt a0_taken a0_isApart a0_ways a0_next a0_splits a0_powers a0_row a0_many a0_can a0_could a0_arcRow a0_order a0_isOut H.size F v0_thrown v0_nodes v0_arcs v0_takenMany v0_leftBits v0_hasPolynomial v0_hasLists w0_row_6 x3_4 x5_11 q_27 hc_28) (cwV 2 htt (gdV kt_892 kt_894 kp_47 kt_10 kt_895) rfl rfl rfl (by decide +kernel) ⟨(Nat.le_of_ble_eq_true rfl), (Nat.le_of_ble_eq_true rfl)⟩) ⟨PcS_blind, va_recv hK hPc (ci := 8) (q0 := 0) rfl rfl, PcS_in hPc hK hDc hNw⟩ rfl rfl hl.1 rfl (lv_room (Nat.le_of_ble_eq_true rfl)) d_Mo_search_88 ⟨Nat.zero_le _, Nat.zero_le _⟩) hS (fun q _ h => hFc q h) hFc (fun r_29 u t H1 locs ht hvm hw hB hz1 hk1 hS => ?_)
            obtain ⟨hP1, hK1, hD1⟩ := hB
            rw [ht] at hP1
            obtain ⟨hw, hz_30⟩ := hw
            subst hw
            obtain ⟨hP, hD⟩ := va_join (wr := [(a0_near, .inl (cI, 12, .inl w0_near)), (a0_many, .inl (cI, 12, .inl w0_many_7))]) (w1 := (wd_Mo_isNewTwice cI cJ cG cZ a0 a0_from a0_to a0_near a0_lists a0_colours a0_shades a0_tints a0_attempt a0_taken a0_isApart a0_ways a0_next a0_splits a0_powers a0_row a0_many a0_can a0_could a0_arcRow a0_order a0_isOut v0_thrown v0_nodes v0_arcs v0_takenMany v0_leftBits v0_hasPolynomial v0_hasLists w0_row_6)) hP hD [0, 2] [1, 3] rfl rfl (by decide) (by decide) hk1 hFc hP1 hD1
            have hP : va_P (dC, dI) vwCl (wd_Mo_search cI cJ cG cZ a0 a0_from a0_to a0_near a0_lists a0_colours a0_shades a0_tints a0_attempt a0_taken a0_isApart a0_ways a0_next a0_splits a0_powers a0_row a0_many a0_can a0_could a0_arcRow a0_order a0_isOut v0_thrown v0_nodes v0_arcs v0_takenMany v0_leftBits v0_hasPolynomial v0_hasLists w0_near w0_row_6 w0_many_7) H1 := hP.sub [2, 0, 3, 1] rfl
            have hD : va_D A (wd_Mo_search cI cJ cG cZ a0 a0_from a0_to a0_near a0_lists a0_colours a0_shades a0_tints a0_attempt a0_taken a0_isApart a0_ways a0_next a0_splits a0_powers a0_row a0_many a0_can a0_could a0_arcRow a0_order a0_isOut v0_thrown v0_nodes v0_arcs v0_takenMany v0_leftBits v0_hasPolynomial v0_hasLists w0_near w0_row_6 w0_many_7) := hD.sub [2, 0, 3, 1] (by decide) rfl
            clear hP1 hK1 hD1 hk1 hPc hDc hFc ht hvm hz1
            generalize H1 = H at hP hS ⊢
            refine lv_if_eq (tgt := 98) hx hb d_Mo_search_91 (by decide) (fun c_31 => ?_) (fun c_31 => ?_)
            · have hm := ite_t c_31 hm
              exact jp_98 ls H locs hm (lv_sub hl [0, 1, 2, 3, 4, 5] rfl) hP hD hS
            · have hm := ite_f c_31 hm
              refine lv_iconst (v := 1) hx hb d_Mo_search_94 (by decide) ?_
              refine lv_goto (tgt := 99) hx hb d_Mo_search_95 (by decide) ?_
              exact jp_99 _ ls H locs hm (lv_sub hl [0, 1, 2, 3, 4, 5] rfl) hP hD hS
        clear hJ_78
        refine lv_icmp_ge (tgt := 78) hx hb d_Mo_search_45 (by decide) (fun c_32 => ?_) (fun c_32 => ?_)
        · have hm := ite_t c_32 hm
          exact jp_78 ls H locs hm (lv_sub hl [0, 1, 2, 3, 4, 5] rfl) hP hD hS
        · have hm := ite_f c_32 hm
          refine lv_aload_n hx hb d_Mo_search_48 rfl (lv_at hl 0 rfl) ?_
          refine lv_iload_n hx hb d_Mo_search_49 rfl (lv_at hl 3 rfl) ?_
          refine lv_iload hx hb d_Mo_search_50 (lv_at hl 5 rfl) ?_
          obtain ⟨q_33, hc_34, hm⟩ := gM_e hm
          have hPc : va_P (dC, dI) vwCl (wd_Mo_fits cI cJ cG cZ a0 a0_from a0_to a0_near a0_lists a0_colours a0_shades a0_tints a0_attempt a0_taken a0_isApart a0_ways a0_next a0_splits a0_powers a0_row a0_many a0_can a0_could a0_arcRow a0_order a0_isOut v0_thrown v0_nodes v0_arcs v0_takenMany v0_leftBits v0_hasPolynomial v0_hasLists w0_near w0_row_6) H := hP.sub [0, 1, 2] rfl
          have hDc : va_D A (wd_Mo_fits cI cJ cG cZ a0 a0_from a0_to a0_near a0_lists a0_colours a0_shades a0_tints a0_attempt a0_taken a0_isApart a0_ways a0_next a0_splits a0_powers a0_row a0_many a0_can a0_could a0_arcRow a0_order a0_isOut v0_thrown v0_nodes v0_arcs v0_takenMany v0_leftBits v0_hasPolynomial v0_hasLists w0_near w0_row_6) := hD.sub [0, 1, 2] (by decide) rfl
          have hFc : ∀ q, va_A (wd_Mo_fits cI cJ cG cZ a0 a0_from a0_to a0_near a0_lists a0_colours a0_shades a0_tints a0_attempt a0_taken a0_isApart a0_ways a0_next a0_splits a0_powers a0_row a0_many a0_can a0_could a0_arcRow a0_order a0_isOut v0_thrown v0_nodes v0_arcs v0_takenMany v0_leftBits v0_hasPolynomial v0_hasLists w0_near w0_row_6) H.size q → A q := va_free hD hS hA [0, 1, 2] rfl
          refine va_calli (va_runV (As := [.int x3_4, .int x5_11]) (rest := []) ⟨hx, hb, hml, hown, htt⟩ (c_Mo_fits l dC dI cI cJ cG cZ a0 a0_from a0_to a0_near a0_lists a0_colours a0_shades a0_tints a0_attempt a0_taken a0_isApart a0_ways a0_next a0_splits a0_powers a0_row a0_many a0_can a0_could a0_arcRow a0_order a0_isOut H.size F v0_thrown v0_nodes v0_arcs v0_takenMany v0_leftBits v0_hasPolynomial v0_hasLists w0_near w0_row_6 x3_4 x5_11 q_33 hc_34) (cwV 2 htt (gdV kt_884 kt_886 kp_45 kt_10 kt_887) rfl rfl rfl (by decide +kernel) ⟨(Nat.le_of_ble_eq_true rfl), (Nat.le_of_ble_eq_true rfl)⟩) ⟨PcS_blind, va_recv hK hPc (ci := 8) (q0 := 0) rfl rfl, PcS_in hPc hK hDc hNw⟩ rfl rfl hl.1 rfl (lv_room (Nat.le_of_ble_eq_true rfl)) d_Mo_search_52 ⟨Nat.zero_le _, Nat.zero_le _⟩) hS (fun q _ h => hFc q h) hFc (fun r_35 u t H1 locs ht hvm hw hB hz1 hk1 hS => ?_)
          obtain ⟨hP1, hK1, hD1⟩ := hB
          rw [ht] at hP1
          obtain ⟨hw, hz_36⟩ := hw
          subst hw
          obtain ⟨hP, hD⟩ := va_join (wr := [(a0_many, .inl (cI, 12, .inl w0_many_7))]) (w1 := (wd_Mo_fits cI cJ cG cZ a0 a0_from a0_to a0_near a0_lists a0_colours a0_shades a0_tints a0_attempt a0_taken a0_isApart a0_ways a0_next a0_splits a0_powers a0_row a0_many a0_can a0_could a0_arcRow a0_order a0_isOut v0_thrown v0_nodes v0_arcs v0_takenMany v0_leftBits v0_hasPolynomial v0_hasLists w0_near w0_row_6)) hP hD [0, 1, 2] [3] rfl rfl (by decide) (by decide) hk1 hFc hP1 hD1
          have hP : va_P (dC, dI) vwCl (wd_Mo_search cI cJ cG cZ a0 a0_from a0_to a0_near a0_lists a0_colours a0_shades a0_tints a0_attempt a0_taken a0_isApart a0_ways a0_next a0_splits a0_powers a0_row a0_many a0_can a0_could a0_arcRow a0_order a0_isOut v0_thrown v0_nodes v0_arcs v0_takenMany v0_leftBits v0_hasPolynomial v0_hasLists w0_near w0_row_6 w0_many_7) H1 := hP.sub [1, 2, 3, 0] rfl
          have hD : va_D A (wd_Mo_search cI cJ cG cZ a0 a0_from a0_to a0_near a0_lists a0_colours a0_shades a0_tints a0_attempt a0_taken a0_isApart a0_ways a0_next a0_splits a0_powers a0_row a0_many a0_can a0_could a0_arcRow a0_order a0_isOut v0_thrown v0_nodes v0_arcs v0_takenMany v0_leftBits v0_hasPolynomial v0_hasLists w0_near w0_row_6 w0_many_7) := hD.sub [1, 2, 3, 0] (by decide) rfl
          clear hP1 hK1 hD1 hk1 hPc hDc hFc ht hvm hz1
          generalize H1 = H at hP hS ⊢
          refine lv_if_eq (tgt := 72) hx hb d_Mo_search_55 (by decide) (fun c_37 => ?_) (fun c_37 => ?_)
          · have hm := ite_t c_37 hm
            obtain ⟨x5_38, ex5_38⟩ : ∃ y : Int32, y = x5_11 + 1 := ⟨_, rfl⟩
            have hm := gB_at ex5_38 hm
            refine lv_iinc (v := x5_38) (lv' := [(5, .int x5_38), (0, .ref a0), (1, .int p1), (2, .int p2), (3, .int x3_4), (4, .int x4_5)]) hx hb d_Mo_search_72 hl (k := 5) rfl (by rw [ex5_38]; rfl) (by decide) rfl (fun ls hl => ?_)
            refine lv_goto (tgt := 42) hx hb d_Mo_search_75 (by decide) ?_
            exact ih_42 _ hm _ rfl ls H locs (lv_sub hl [1, 2, 3, 4, 5, 0] rfl) hP hD hS
          · have hm := ite_f c_37 hm
            refine lv_iload_n hx hb d_Mo_search_58 rfl (lv_at hl 2 rfl) ?_
            refine lv_if_eq (tgt := 78) hx hb d_Mo_search_59 (by decide) (fun c_39 => ?_) (fun c_39 => ?_)
            · have hm := ite_t c_39 hm
              exact jp_78 ls H locs hm (lv_sub hl [0, 1, 2, 3, 4, 5] rfl) hP hD hS
            · have hm := ite_f c_39 hm
              refine lv_aload_n hx hb d_Mo_search_62 rfl (lv_at hl 0 rfl) ?_
              refine lv_iload hx hb d_Mo_search_63 (lv_at hl 5 rfl) ?_
              refine lv_iload_n hx hb d_Mo_search_65 rfl (lv_at hl 1 rfl) ?_
              obtain ⟨q_40, hc_41, hm⟩ := gM_e hm
              have hPc : va_P (dC, dI) vwCl (wd_Mo_isEven cI cJ cG cZ a0 a0_from a0_to a0_near a0_lists a0_colours a0_shades a0_tints a0_attempt a0_taken a0_isApart a0_ways a0_next a0_splits a0_powers a0_row a0_many a0_can a0_could a0_arcRow a0_order a0_isOut v0_thrown v0_nodes v0_arcs v0_takenMany v0_leftBits v0_hasPolynomial v0_hasLists w0_many_7) H := hP.sub [0, 3] rfl
              have hDc : va_D A (wd_Mo_isEven cI cJ cG cZ a0 a0_from a0_to a0_near a0_lists a0_colours a0_shades a0_tints a0_attempt a0_taken a0_isApart a0_ways a0_next a0_splits a0_powers a0_row a0_many a0_can a0_could a0_arcRow a0_order a0_isOut v0_thrown v0_nodes v0_arcs v0_takenMany v0_leftBits v0_hasPolynomial v0_hasLists w0_many_7) := hD.sub [0, 3] (by decide) rfl
              have hFc : ∀ q, va_A (wd_Mo_isEven cI cJ cG cZ a0 a0_from a0_to a0_near a0_lists a0_colours a0_shades a0_tints a0_attempt a0_taken a0_isApart a0_ways a0_next a0_splits a0_powers a0_row a0_many a0_can a0_could a0_arcRow a0_order a0_isOut v0_thrown v0_nodes v0_arcs v0_takenMany v0_leftBits v0_hasPolynomial v0_hasLists w0_many_7) H.size q → A q := va_free hD hS hA [0, 3] rfl
              refine va_calli (va_runV (As := [.int x5_11, .int p1]) (rest := []) ⟨hx, hb, hml, hown, htt⟩ (c_Mo_isEven l dC dI cI cJ cG cZ a0 a0_from a0_to a0_near a0_lists a0_colours a0_shades a0_tints a0_attempt a0_taken a0_isApart a0_ways a0_next a0_splits a0_powers a0_row a0_many a0_can a0_could a0_arcRow a0_order a0_isOut H.size F v0_thrown v0_nodes v0_arcs v0_takenMany v0_leftBits v0_hasPolynomial v0_hasLists w0_many_7 x5_11 p1 q_40 hc_41) (cwV 2 htt (gdV kt_888 kt_890 kp_46 kt_10 kt_891) rfl rfl rfl (by decide +kernel) ⟨(Nat.le_of_ble_eq_true rfl), (Nat.le_of_ble_eq_true rfl)⟩) ⟨PcS_blind, va_recv hK hPc (ci := 8) (q0 := 0) rfl rfl, PcS_in hPc hK hDc hNw⟩ rfl rfl hl.1 rfl (lv_room (Nat.le_of_ble_eq_true rfl)) d_Mo_search_66 ⟨Nat.zero_le _, Nat.zero_le _⟩) hS (fun q _ h => hFc q h) hFc (fun r_42 u t H1 locs ht hvm hw hB hz1 hk1 hS => ?_)
              obtain ⟨hP1, hK1, hD1⟩ := hB
              rw [ht] at hP1
              obtain ⟨hw, hz_43⟩ := hw
              subst hw
              obtain ⟨hP, hD⟩ := va_join (wr := [(a0_near, .inl (cI, 12, .inl w0_near)), (a0_row, .inl (cI, 12, .inl w0_row_6))]) (w1 := (wd_Mo_isEven cI cJ cG cZ a0 a0_from a0_to a0_near a0_lists a0_colours a0_shades a0_tints a0_attempt a0_taken a0_isApart a0_ways a0_next a0_splits a0_powers a0_row a0_many a0_can a0_could a0_arcRow a0_order a0_isOut v0_thrown v0_nodes v0_arcs v0_takenMany v0_leftBits v0_hasPolynomial v0_hasLists w0_many_7)) hP hD [0, 3] [1, 2] rfl rfl (by decide) (by decide) hk1 hFc hP1 hD1
              have hP : va_P (dC, dI) vwCl (wd_Mo_search cI cJ cG cZ a0 a0_from a0_to a0_near a0_lists a0_colours a0_shades a0_tints a0_attempt a0_taken a0_isApart a0_ways a0_next a0_splits a0_powers a0_row a0_many a0_can a0_could a0_arcRow a0_order a0_isOut v0_thrown v0_nodes v0_arcs v0_takenMany v0_leftBits v0_hasPolynomial v0_hasLists w0_near w0_row_6 w0_many_7) H1 := hP.sub [2, 0, 1, 3] rfl
              have hD : va_D A (wd_Mo_search cI cJ cG cZ a0 a0_from a0_to a0_near a0_lists a0_colours a0_shades a0_tints a0_attempt a0_taken a0_isApart a0_ways a0_next a0_splits a0_powers a0_row a0_many a0_can a0_could a0_arcRow a0_order a0_isOut v0_thrown v0_nodes v0_arcs v0_takenMany v0_leftBits v0_hasPolynomial v0_hasLists w0_near w0_row_6 w0_many_7) := hD.sub [2, 0, 1, 3] (by decide) rfl
              clear hP1 hK1 hD1 hk1 hPc hDc hFc ht hvm hz1
              generalize H1 = H at hP hS ⊢
              refine lv_if_ne (tgt := 78) hx hb d_Mo_search_69 (by decide) (fun c_44 => ?_) (fun c_44 => ?_)
              · have hm := ite_f c_44 hm
                exact jp_78 ls H locs hm (lv_sub hl [0, 1, 2, 3, 4, 5] rfl) hP hD hS
              · have hm := ite_t c_44 hm
                obtain ⟨x5_45, ex5_45⟩ : ∃ y : Int32, y = x5_11 + 1 := ⟨_, rfl⟩
                have hm := gB_at ex5_45 hm
                refine lv_iinc (v := x5_45) (lv' := [(5, .int x5_45), (0, .ref a0), (1, .int p1), (2, .int p2), (3, .int x3_4), (4, .int x4_5)]) hx hb d_Mo_search_72 hl (k := 5) rfl (by rw [ex5_45]; rfl) (by decide) rfl (fun ls hl => ?_)
                refine lv_goto (tgt := 42) hx hb d_Mo_search_75 (by decide) ?_
                exact ih_42 _ hm _ rfl ls H locs (lv_sub hl [1, 2, 3, 4, 5, 0] rfl) hP hD hS
  · have hm := ite_f c_3 hm
    refine lv_aload_n hx hb d_Mo_search_8 rfl (lv_at hl 0 rfl) ?_
    refine va_get (D := (dC, dI)) (ci := 8) (v := .ref a0_many) (C := R_Mo) (T := T_Mo) (N := 28) hx hb htt hin_Mo hown hK hP 0 rfl rfl 20 (by decide) (htt _ kt_789) (fun _ h9 => h9) rfl d_Mo_search_9 ?_
    refine lv_iload_n hx hb d_Mo_search_12 rfl (lv_at hl 3 rfl) ?_
    refine lv_iconst (v := 0) hx hb d_Mo_search_13 (by decide) ?_
    obtain ⟨hi_46, hm⟩ := gC_e hm
    refine va_iast hx hb hK hP hD hS 3 0 rfl rfl (inb_vp hi_46) d_Mo_search_14 (fun H locs hP hD hS => ?_)
    have hP : va_P (dC, dI) vwCl (wd_Mo_search cI cJ cG cZ a0 a0_from a0_to a0_near a0_lists a0_colours a0_shades a0_tints a0_attempt a0_taken a0_isApart a0_ways a0_next a0_splits a0_powers a0_row a0_many a0_can a0_could a0_arcRow a0_order a0_isOut v0_thrown v0_nodes v0_arcs v0_takenMany v0_leftBits v0_hasPolynomial v0_hasLists w0_near w0_row (upd w0_many_2 x3_1.toNatClampNeg 0)) H := hP
    have hD : va_D A (wd_Mo_search cI cJ cG cZ a0 a0_from a0_to a0_near a0_lists a0_colours a0_shades a0_tints a0_attempt a0_taken a0_isApart a0_ways a0_next a0_splits a0_powers a0_row a0_many a0_can a0_could a0_arcRow a0_order a0_isOut v0_thrown v0_nodes v0_arcs v0_takenMany v0_leftBits v0_hasPolynomial v0_hasLists w0_near w0_row (upd w0_many_2 x3_1.toNatClampNeg 0)) := hD
    obtain ⟨x3_47, ex3_47⟩ : ∃ y : Int32, y = x3_1 + 1 := ⟨_, rfl⟩
    have hm := gB_at ex3_47 hm
    refine lv_iinc (v := x3_47) (lv' := [(3, .int x3_47), (0, .ref a0), (1, .int p1), (2, .int p2)]) hx hb d_Mo_search_15 hl (k := 3) rfl (by rw [ex3_47]; rfl) (by decide) rfl (fun ls hl => ?_)
    refine lv_goto (tgt := 2) hx hb d_Mo_search_18 (by decide) ?_
    exact ih_2 _ hm _ _ rfl ls H locs (lv_sub hl [1, 2, 3, 0] rfl) hP hD hS
