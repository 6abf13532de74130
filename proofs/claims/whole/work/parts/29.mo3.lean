theorem d_Mo_ways_0 : decode prog_10_method_20_code 0 = .ok (.aload_n 0, 1) := by decide +kernel
theorem d_Mo_ways_1 : decode prog_10_method_20_code 1 = .ok (.iconst 0, 1) := by decide +kernel
theorem d_Mo_ways_2 : decode prog_10_method_20_code 2 = .ok (.putfield 79, 3) := by decide +kernel
theorem d_Mo_ways_5 : decode prog_10_method_20_code 5 = .ok (.aload_n 0, 1) := by decide +kernel
theorem d_Mo_ways_6 : decode prog_10_method_20_code 6 = .ok (.invokevirtual 130, 3) := by decide +kernel
theorem d_Mo_ways_9 : decode prog_10_method_20_code 9 = .ok (.lconst 0, 1) := by decide +kernel
theorem d_Mo_ways_10 : decode prog_10_method_20_code 10 = .ok (.lstore_n 3, 1) := by decide +kernel
theorem d_Mo_ways_11 : decode prog_10_method_20_code 11 = .ok (.aload_n 0, 1) := by decide +kernel
theorem d_Mo_ways_12 : decode prog_10_method_20_code 12 = .ok (.getfield 86, 3) := by decide +kernel
theorem d_Mo_ways_15 : decode prog_10_method_20_code 15 = .ok (.istore 5, 2) := by decide +kernel
theorem d_Mo_ways_17 : decode prog_10_method_20_code 17 = .ok (.iload 5, 2) := by decide +kernel
theorem d_Mo_ways_19 : decode prog_10_method_20_code 19 = .ok (.ifCond .lt 21, 3) := by decide +kernel
theorem d_Mo_ways_22 : decode prog_10_method_20_code 22 = .ok (.lload_n 3, 1) := by decide +kernel
theorem d_Mo_ways_23 : decode prog_10_method_20_code 23 = .ok (.lload_n 1, 1) := by decide +kernel
theorem d_Mo_ways_24 : decode prog_10_method_20_code 24 = .ok (.lmul, 1) := by decide +kernel
theorem d_Mo_ways_25 : decode prog_10_method_20_code 25 = .ok (.aload_n 0, 1) := by decide +kernel
theorem d_Mo_ways_26 : decode prog_10_method_20_code 26 = .ok (.getfield 52, 3) := by decide +kernel
theorem d_Mo_ways_29 : decode prog_10_method_20_code 29 = .ok (.iload 5, 2) := by decide +kernel
theorem d_Mo_ways_31 : decode prog_10_method_20_code 31 = .ok (.laload, 1) := by decide +kernel
theorem d_Mo_ways_32 : decode prog_10_method_20_code 32 = .ok (.ladd, 1) := by decide +kernel
theorem d_Mo_ways_33 : decode prog_10_method_20_code 33 = .ok (.lstore_n 3, 1) := by decide +kernel
theorem d_Mo_ways_34 : decode prog_10_method_20_code 34 = .ok (.iinc 5 (-1), 3) := by decide +kernel
theorem d_Mo_ways_37 : decode prog_10_method_20_code 37 = .ok (.goto (-20), 3) := by decide +kernel
theorem d_Mo_ways_40 : decode prog_10_method_20_code 40 = .ok (.lload_n 3, 1) := by decide +kernel
theorem d_Mo_ways_41 : decode prog_10_method_20_code 41 = .ok (.lreturn, 1) := by decide +kernel
abbrev wd_Mo_ways (cI cJ cG cZ : ClassId) (a0 a0_from a0_to a0_near a0_lists a0_colours a0_shades a0_tints a0_attempt a0_taken a0_isApart a0_ways a0_next a0_splits a0_powers a0_row a0_many a0_can a0_could a0_arcRow a0_order a0_isOut : Nat) (v0_thrown : Int32) (v0_nodes : Int32) (v0_arcs : Int32) (v0_takenMany : Int32) (v0_leftBits : Int32) (v0_hasPolynomial : Int32) (v0_hasLists : Int32) (w0_near : Nat → Int32) (w0_isApart : Nat → Int32) (w0_next : Nat → Int64) (w0_splits : Nat → Int64) (w0_powers : Nat → Int64) : va_W := [(a0, .inr (8, [.int v0_thrown, .int v0_nodes, .int v0_arcs, .ref a0_from, .ref a0_to, .ref a0_near, .ref a0_lists, .ref a0_colours, .ref a0_shades, .ref a0_tints, .ref a0_attempt, .int v0_takenMany, .ref a0_taken, .int v0_leftBits, .ref a0_isApart, .ref a0_ways, .ref a0_next, .ref a0_splits, .ref a0_powers, .ref a0_row, .ref a0_many, .int v0_hasPolynomial, .int v0_hasLists, .ref a0_can, .ref a0_could, .ref a0_arcRow, .ref a0_order, .ref a0_isOut])), (a0_near, .inl (cI, 12, .inl w0_near)), (a0_isApart, .inl (cZ, 4096, .inl w0_isApart)), (a0_next, .inl (cJ, 4096, .inr (.inl w0_next))), (a0_splits, .inl (cJ, 53248, .inr (.inl w0_splits))), (a0_powers, .inl (cJ, 14, .inr (.inl w0_powers)))]
abbrev us_Mo_ways : List Cond := .code y_Mo_ways prog_10_method_20_code 6 (some .long) :: gtbl
abbrev rm_Mo_ways : Room := { frames := 2, cells := 0, slots := 0, locals := 50 }
def m_Mo_ways (F : Nat) (v0_thrown : Int32) (v0_nodes : Int32) (v0_arcs : Int32) (v0_takenMany : Int32) (v0_leftBits : Int32) (v0_hasPolynomial : Int32) (v0_hasLists : Int32) (w0_near : Nat → Int32) (w0_isApart : Nat → Int32) (w0_next : Nat → Int64) (w0_splits : Nat → Int64) (w0_powers : Nat → Int64) (p1 : Int64) : Option (Int64 × Int32 × Int32 × (Nat → Int32) × (Nat → Int64) × (Nat → Int64) × (Nat → Int64)) :=
  gM (m_Mo_polynomial F 0 v0_nodes v0_arcs v0_takenMany v0_leftBits v0_hasPolynomial v0_hasLists w0_near w0_isApart w0_next w0_splits w0_powers) (fun (z_7 : Int32 × (Nat → Int32) × (Nat → Int64) × (Nat → Int64) × (Nat → Int64)) => match z_7 with
  | (v0_hasPolynomial_1, w0_isApart_2, w0_next_3, w0_splits_4, w0_powers_5) =>
  gL (fun (k_17 : (Int64 × Int32) → Option (Int64 × Int32 × Int32 × (Nat → Int32) × (Nat → Int64) × (Nat → Int64) × (Nat → Int64))) (z_17 : Int64 × Int32) => match z_17 with
  | (x3_8, x5_9) =>
  if x5_9 < 0 then (
    some (x3_8, 0, v0_hasPolynomial_1, w0_isApart_2, w0_next_3, w0_splits_4, w0_powers_5)
  ) else (
    gC (inb x5_9 14) (
    gB ((x3_8 * p1) + (w0_powers_5 x5_9.toNatClampNeg)) (fun x3_12 =>
    gB (x5_9 + (-1)) (fun x5_13 =>
    k_17 (x3_12, x5_13))))
  )
  ) F (0, v0_nodes))
set_option maxHeartbeats 4000000 in
set_option maxRecDepth 100000 in
theorem c_Mo_ways (l : Launch) (dC : Nat → ClassId) (dI : Nat → Nat → Nat) (cI cJ cG cZ : ClassId) (a0 a0_from a0_to a0_near a0_lists a0_colours a0_shades a0_tints a0_attempt a0_taken a0_isApart a0_ways a0_next a0_splits a0_powers a0_row a0_many a0_can a0_could a0_arcRow a0_order a0_isOut : Nat) (sz : Nat) (F : Nat) (v0_thrown : Int32) (v0_nodes : Int32) (v0_arcs : Int32) (v0_takenMany : Int32) (v0_leftBits : Int32) (v0_hasPolynomial : Int32) (v0_hasLists : Int32) (w0_near : Nat → Int32) (w0_isApart : Nat → Int32) (w0_next : Nat → Int64) (w0_splits : Nat → Int64) (w0_powers : Nat → Int64) (p1 : Int64) (ret : Int64) (o_v0_thrown : Int32) (o_v0_hasPolynomial : Int32) (o_w0_isApart : Nat → Int32) (o_w0_next : Nat → Int64) (o_w0_splits : Nat → Int64) (o_w0_powers : Nat → Int64) (hm : m_Mo_ways F v0_thrown v0_nodes v0_arcs v0_takenMany v0_leftBits v0_hasPolynomial v0_hasLists w0_near w0_isApart w0_next w0_splits w0_powers p1 = some (ret, o_v0_thrown, o_v0_hasPolynomial, o_w0_isApart, o_w0_next, o_w0_splits, o_w0_powers)) : Met l y_Mo_ways us_Mo_ways rm_Mo_ways (PcS (dC, dI) (tyL cI cJ cG cZ) [.ref a0, .long p1] sz (wd_Mo_ways cI cJ cG cZ a0 a0_from a0_to a0_near a0_lists a0_colours a0_shades a0_tints a0_attempt a0_taken a0_isApart a0_ways a0_next a0_splits a0_powers a0_row a0_many a0_can a0_could a0_arcRow a0_order a0_isOut v0_thrown v0_nodes v0_arcs v0_takenMany v0_leftBits v0_hasPolynomial v0_hasLists w0_near w0_isApart w0_next w0_splits w0_powers)) (va_Ql (fun (r : Int64) (_ : Unit) => ret = r) (fun _ t => PoS (dC, dI) (tyL cI cJ cG cZ) (wd_Mo_ways cI cJ cG cZ a0 a0_from a0_to a0_near a0_lists a0_colours a0_shades a0_tints a0_attempt a0_taken a0_isApart a0_ways a0_next a0_splits a0_powers a0_row a0_many a0_can a0_could a0_arcRow a0_order a0_isOut o_v0_thrown v0_nodes v0_arcs v0_takenMany v0_leftBits o_v0_hasPolynomial v0_hasLists w0_near o_w0_isApart o_w0_next o_w0_splits o_w0_powers) (va_A (wd_Mo_ways cI cJ cG cZ a0 a0_from a0_to a0_near a0_lists a0_colours a0_shades a0_tints a0_attempt a0_taken a0_isApart a0_ways a0_next a0_splits a0_powers a0_row a0_many a0_can a0_could a0_arcRow a0_order a0_isOut v0_thrown v0_nodes v0_arcs v0_takenMany v0_leftBits v0_hasPolynomial v0_hasLists w0_near w0_isApart w0_next w0_splits w0_powers) sz) t) (va_A (wd_Mo_ways cI cJ cG cZ a0 a0_from a0_to a0_near a0_lists a0_colours a0_shades a0_tints a0_attempt a0_taken a0_isApart a0_ways a0_next a0_splits a0_powers a0_row a0_many a0_can a0_could a0_arcRow a0_order a0_isOut v0_thrown v0_nodes v0_arcs v0_takenMany v0_leftBits v0_hasPolynomial v0_hasLists w0_near w0_isApart w0_next w0_splits w0_powers) sz)) 0 0 (va_A (wd_Mo_ways cI cJ cG cZ a0 a0_from a0_to a0_near a0_lists a0_colours a0_shades a0_tints a0_attempt a0_taken a0_isApart a0_ways a0_next a0_splits a0_powers a0_row a0_many a0_can a0_could a0_arcRow a0_order a0_isOut v0_thrown v0_nodes v0_arcs v0_takenMany v0_leftBits v0_hasPolynomial v0_hasLists w0_near w0_isApart w0_next w0_splits w0_powers) sz) := by
  refine Met.ofW (cc := prog_10_method_20_code) (maxL := 6) (ret := (some .long)) (by decide) rfl ?_
  intro p e s m args below meth c s₁ B hml hv
  obtain ⟨rfl, hsz, hP, hK, hD0, hNw⟩ := hv
  have hx := B.exec
  have hb := B.bytes
  have hr := B.returns
  have htt : ∀ w ∈ gtbl, w.before _ s = true := fun w h => atoms_spec (ws := us_Mo_ways) B.pre w (List.mem_cons_of_mem _ h)
  have hown : s.vm.findClass R_Mo = some m.cls := findClass_of_methodNamed B.named
  have hlocks := B.notSynchronized
  subst hsz
  have hD := hD0.self (sz := s.heap.size)
  generalize hAe : va_A (wd_Mo_ways cI cJ cG cZ a0 a0_from a0_to a0_near a0_lists a0_colours a0_shades a0_tints a0_attempt a0_taken a0_isApart a0_ways a0_next a0_splits a0_powers a0_row a0_many a0_can a0_could a0_arcRow a0_order a0_isOut v0_thrown v0_nodes v0_arcs v0_takenMany v0_leftBits v0_hasPolynomial v0_hasLists w0_near w0_isApart w0_next w0_splits w0_powers) s.heap.size = A at hD ⊢
  have hA : ∀ q : Nat, s.heap.size ≤ q → A q := fun q h => by rw [← hAe]; exact Or.inr h
  clear hAe hD0
  have hS : va_S A s.heap s.heap [] := va_S.rf
  have hl := lv_entry ([.ref a0, .long p1]) (n := 6) (Nat.le_of_ble_eq_true rfl)
  rw [lg_entry_eq]
  generalize (lg_sl ([.ref a0, .long p1]) ++ List.replicate (6 - (lg_sl ([.ref a0, .long p1])).length) Slot.unset).toArray = ls at hl ⊢
  have hl : lv_has ls 6 [(0, .ref a0), (1, .long p1)] := hl
  generalize hH : s.heap = H at hP ⊢
  have hS : va_S A s.heap H [] := hH ▸ hS
  generalize hLo : ([] : List Loc) = locs at hS ⊢
  clear hH hLo
  unfold m_Mo_ways at hm
  refine lv_aload_n hx hb d_Mo_ways_0 rfl (lv_at hl 0 rfl) ?_
  refine lv_iconst (v := 0) hx hb d_Mo_ways_1 (by decide) ?_
  refine va_put (D := (dC, dI)) (ci := 8) (v := .int 0) (ty := .int) (C := R_Mo) (T := T_Mo) (N := 28) hx hb htt hin_Mo ty_Mo tyok_Mo nm_Mo hown hK hP hD hS 0 rfl rfl 0 (by decide) (htt _ kt_769) (fun _ h9 => h9) rfl (by decide +kernel) rfl rfl (Nat.le_of_ble_eq_true rfl) d_Mo_ways_2 (fun H locs hP hD hS => ?_)
  have hP : va_P (dC, dI) vwCl (wd_Mo_ways cI cJ cG cZ a0 a0_from a0_to a0_near a0_lists a0_colours a0_shades a0_tints a0_attempt a0_taken a0_isApart a0_ways a0_next a0_splits a0_powers a0_row a0_many a0_can a0_could a0_arcRow a0_order a0_isOut 0 v0_nodes v0_arcs v0_takenMany v0_leftBits v0_hasPolynomial v0_hasLists w0_near w0_isApart w0_next w0_splits w0_powers) H := hP
  have hD : va_D A (wd_Mo_ways cI cJ cG cZ a0 a0_from a0_to a0_near a0_lists a0_colours a0_shades a0_tints a0_attempt a0_taken a0_isApart a0_ways a0_next a0_splits a0_powers a0_row a0_many a0_can a0_could a0_arcRow a0_order a0_isOut 0 v0_nodes v0_arcs v0_takenMany v0_leftBits v0_hasPolynomial v0_hasLists w0_near w0_isApart w0_next w0_splits w0_powers) := hD
  refine lv_aload_n hx hb d_Mo_ways_5 rfl (lv_at hl 0 rfl) ?_
  obtain ⟨⟨v0_hasPolynomial_1, w0_isApart_2, w0_next_3, w0_splits_4, w0_powers_5⟩, hc_6, hm⟩ := gM_e hm
  dsimp only at hm
  have hPc : va_P (dC, dI) vwCl (wd_Mo_polynomial cI cJ cG cZ a0 a0_from a0_to a0_near a0_lists a0_colours a0_shades a0_tints a0_attempt a0_taken a0_isApart a0_ways a0_next a0_splits a0_powers a0_row a0_many a0_can a0_could a0_arcRow a0_order a0_isOut 0 v0_nodes v0_arcs v0_takenMany v0_leftBits v0_hasPolynomial v0_hasLists w0_near w0_isApart w0_next w0_splits w0_powers) H := hP.sub [0, 1, 2, 3, 4, 5] rfl
  have hDc : va_D A (wd_Mo_polynomial cI cJ cG cZ a0 a0_from a0_to a0_near a0_lists a0_colours a0_shades a0_tints a0_attempt a0_taken a0_isApart a0_ways a0_next a0_splits a0_powers a0_row a0_many a0_can a0_could a0_arcRow a0_order a0_isOut 0 v0_nodes v0_arcs v0_takenMany v0_leftBits v0_hasPolynomial v0_hasLists w0_near w0_isApart w0_next w0_splits w0_powers) := hD.sub [0, 1, 2, 3, 4, 5] (by decide) rfl
  have hFc : ∀ q, va_A (wd_Mo_polynomial cI cJ cG cZ a0 a0_from a0_to a0_near a0_lists a0_colours a0_shades a0_tints a0_attempt a0_taken a0_isApart a0_ways a0_next a0_splits a0_powers a0_row a0_many a0_can a0_could a0_arcRow a0_order a0_isOut 0 v0_nodes v0_arcs v0_takenMany v0_leftBits v0_hasPolynomial v0_hasLists w0_near w0_isApart w0_next w0_splits w0_powers) H.size q → A q := va_free hD hS hA [0, 1, 2, 3, 4, 5] rfl
  refine va_callv (va_runV (As := []) (rest := []) ⟨hx, hb, hml, hown, htt⟩ (c_Mo_polynomial l dC dI cI cJ cG cZ a0 a0_from a0_to a0_near a0_lists a0_colours a0_shades a0_tints a0_attempt a0_taken a0_isApart a0_ways a0_next a0_splits a0_powers a0_row a0_many a0_can a0_could a0_arcRow a0_order a0_isOut H.size F 0 v0_nodes v0_arcs v0_takenMany v0_leftBits v0_hasPolynomial v0_hasLists w0_near w0_isApart w0_next w0_splits w0_powers v0_hasPolynomial_1 w0_isApart_2 w0_next_3 w0_splits_4 w0_powers_5 hc_6) (cwV 0 htt (gdV kt_912 kt_914 kp_49 kt_10 kt_915) rfl rfl rfl (by decide +kernel) ⟨(Nat.le_of_ble_eq_true rfl), (Nat.le_of_ble_eq_true rfl)⟩) ⟨PcS_blind, va_recv hK hPc (ci := 8) (q0 := 0) rfl rfl, PcS_in hPc hK hDc hNw⟩ rfl rfl hl.1 rfl (lv_room (Nat.le_of_ble_eq_true rfl)) d_Mo_ways_6 ⟨Nat.zero_le _, Nat.zero_le _⟩) hS (fun q _ h => hFc q h) hFc (fun u t H1 locs ht hvm hw hB hz1 hk1 hS => ?_)
  obtain ⟨hP1, hK1, hD1⟩ := hB
  rw [ht] at hP1
  obtain ⟨hP, hD⟩ := va_join (wr := []) (w1 := (wd_Mo_polynomial cI cJ cG cZ a0 a0_from a0_to a0_near a0_lists a0_colours a0_shades a0_tints a0_attempt a0_taken a0_isApart a0_ways a0_next a0_splits a0_powers a0_row a0_many a0_can a0_could a0_arcRow a0_order a0_isOut 0 v0_nodes v0_arcs v0_takenMany v0_leftBits v0_hasPolynomial_1 v0_hasLists w0_near w0_isApart_2 w0_next_3 w0_splits_4 w0_powers_5)) hP hD [0, 1, 2, 3, 4, 5] [] rfl rfl (by decide) (by decide) hk1 hFc hP1 hD1
  have hP : va_P (dC, dI) vwCl (wd_Mo_ways cI cJ cG cZ a0 a0_from a0_to a0_near a0_lists a0_colours a0_shades a0_tints a0_attempt a0_taken a0_isApart a0_ways a0_next a0_splits a0_powers a0_row a0_many a0_can a0_could a0_arcRow a0_order a0_isOut 0 v0_nodes v0_arcs v0_takenMany v0_leftBits v0_hasPolynomial_1 v0_hasLists w0_near w0_isApart_2 w0_next_3 w0_splits_4 w0_powers_5) H1 := hP.sub [0, 1, 2, 3, 4, 5] rfl
  have hD : va_D A (wd_Mo_ways cI cJ cG cZ a0 a0_from a0_to a0_near a0_lists a0_colours a0_shades a0_tints a0_attempt a0_taken a0_isApart a0_ways a0_next a0_splits a0_powers a0_row a0_many a0_can a0_could a0_arcRow a0_order a0_isOut 0 v0_nodes v0_arcs v0_takenMany v0_leftBits v0_hasPolynomial_1 v0_hasLists w0_near w0_isApart_2 w0_next_3 w0_splits_4 w0_powers_5) := hD.sub [0, 1, 2, 3, 4, 5] (by decide) rfl
  clear hP1 hK1 hD1 hk1 hPc hDc hFc ht hvm hz1
  generalize H1 = H at hP hS ⊢
  refine lv_lconst (v := 0) hx hb d_Mo_ways_9 (by decide) ?_
  refine lv_lstore_n (lv' := [(3, .long 0), (0, .ref a0), (1, .long p1)]) hx hb d_Mo_ways_10 rfl hl (by decide) rfl (fun ls hl => ?_)
  refine lv_aload_n hx hb d_Mo_ways_11 rfl (lv_at hl 1 rfl) ?_
  refine va_get (D := (dC, dI)) (ci := 8) (v := .int v0_nodes) (C := R_Mo) (T := T_Mo) (N := 28) hx hb htt hin_Mo hown hK hP 0 rfl rfl 1 (by decide) (htt _ kt_770) (fun _ h9 => h9) rfl d_Mo_ways_12 ?_
  refine lv_istore (lv' := [(5, .int v0_nodes), (3, .long 0), (0, .ref a0), (1, .long p1)]) hx hb d_Mo_ways_15 hl (by decide) rfl (fun ls hl => ?_)
  refine gL_e (P := (fun (z_17 : Int64 × Int32) => ∀ (x3_8 : Int64), ∀ (x5_9 : Int32), z_17 = (x3_8, x5_9) → ∀ (ls : Array Slot) (H : Heap) (locs : List Loc), lv_has ls 6 [(0, .ref a0), (1, .long p1), (3, .long x3_8), (5, .int x5_9)] → va_P (dC, dI) vwCl (wd_Mo_ways cI cJ cG cZ a0 a0_from a0_to a0_near a0_lists a0_colours a0_shades a0_tints a0_attempt a0_taken a0_isApart a0_ways a0_next a0_splits a0_powers a0_row a0_many a0_can a0_could a0_arcRow a0_order a0_isOut 0 v0_nodes v0_arcs v0_takenMany v0_leftBits v0_hasPolynomial_1 v0_hasLists w0_near w0_isApart_2 w0_next_3 w0_splits_4 w0_powers_5) H → va_D A (wd_Mo_ways cI cJ cG cZ a0 a0_from a0_to a0_near a0_lists a0_colours a0_shades a0_tints a0_attempt a0_taken a0_isApart a0_ways a0_next a0_splits a0_powers a0_row a0_many a0_can a0_could a0_arcRow a0_order a0_isOut 0 v0_nodes v0_arcs v0_takenMany v0_leftBits v0_hasPolynomial_1 v0_hasLists w0_near w0_isApart_2 w0_next_3 w0_splits_4 w0_powers_5) → va_S A s.heap H locs → W p l e (headSpec us_Mo_ways rm_Mo_ways).room s m ([.ref a0, .long p1] : List Value).toArray below meth c H locs 0 0 (MQ below (va_Ql (fun (r : Int64) (_ : Unit) => ret = r) (fun _ t => PoS (dC, dI) (tyL cI cJ cG cZ) (wd_Mo_ways cI cJ cG cZ a0 a0_from a0_to a0_near a0_lists a0_colours a0_shades a0_tints a0_attempt a0_taken a0_isApart a0_ways a0_next a0_splits a0_powers a0_row a0_many a0_can a0_could a0_arcRow a0_order a0_isOut o_v0_thrown v0_nodes v0_arcs v0_takenMany v0_leftBits o_v0_hasPolynomial v0_hasLists w0_near o_w0_isApart o_w0_next o_w0_splits o_w0_powers) A t) A) ([.ref a0, .long p1] : List Value).toArray s 0 0 A) (F0 m 17 ls []))) hm (fun k_17 z_17 ih_17 hm => ?_) _ _ rfl ls H locs (lv_sub hl [2, 3, 1, 0] rfl) hP hD hS
  intro x3_8 x5_9 hz ls H locs hl hP hD hS
  subst hz
  dsimp only at hm
  refine lv_iload hx hb d_Mo_ways_17 (lv_at hl 3 rfl) ?_
  refine lv_if_lt (tgt := 40) hx hb d_Mo_ways_19 (by decide) (fun c_10 => ?_) (fun c_10 => ?_)
  · have hm := ite_t c_10 hm
    refine lv_lload_n hx hb d_Mo_ways_40 rfl (lv_at hl 2 rfl) ?_
    cases hm
    exact W.lret hx hb hr (fun t ht hW => ⟨⟨_, (), rfl, rfl, by rw [ht]; exact hP, va_K.moved hW.alike hK, hD⟩, hS.F ht⟩) hS.2.2 d_Mo_ways_41
  · have hm := ite_f c_10 hm
    refine lv_lload_n hx hb d_Mo_ways_22 rfl (lv_at hl 2 rfl) ?_
    refine lv_lload_n hx hb d_Mo_ways_23 rfl (lv_at hl 1 rfl) ?_
    refine lv_lmul hx hb d_Mo_ways_24 ?_
    refine lv_aload_n hx hb d_Mo_ways_25 rfl (lv_at hl 0 rfl) ?_
    refine va_get (D := (dC, dI)) (ci := 8) (v := .ref a0_powers) (C := R_Mo) (T := T_Mo) (N := 28) hx hb htt hin_Mo hown hK hP 0 rfl rfl 18 (by decide) (htt _ kt_787) (fun _ h9 => h9) rfl d_Mo_ways_26 ?_
    refine lv_iload hx hb d_Mo_ways_29 (lv_at hl 3 rfl) ?_
    obtain ⟨hi_11, hm⟩ := gC_e hm
    refine va_lald hx hb hK hP 5 1 rfl rfl (inb_vp hi_11) d_Mo_ways_31 ?_
    refine lv_ladd hx hb d_Mo_ways_32 ?_
    refine lv_topl (fun x3_12 ex3_12 => ?_)
    have hm := gB_at ex3_12 hm
    refine lv_lstore_n (lv' := [(3, .long x3_12), (0, .ref a0), (1, .long p1), (5, .int x5_9)]) hx hb d_Mo_ways_33 rfl hl (by decide) rfl (fun ls hl => ?_)
    obtain ⟨x5_13, ex5_13⟩ : ∃ y : Int32, y = x5_9 + (-1) := ⟨_, rfl⟩
    have hm := gB_at ex5_13 hm
    refine lv_iinc (v := x5_13) (lv' := [(5, .int x5_13), (3, .long x3_12), (0, .ref a0), (1, .long p1)]) hx hb d_Mo_ways_34 hl (k := 3) rfl (by rw [ex5_13]; rfl) (by decide) rfl (fun ls hl => ?_)
    refine lv_goto (tgt := 17) hx hb d_Mo_ways_37 (by decide) ?_
    exact ih_17 _ hm _ _ rfl ls H locs (lv_sub hl [2, 3, 1, 0] rfl) hP hD hS
theorem d_Mo_coefficient_0 : decode prog_10_method_21_code 0 = .ok (.aload_n 0, 1) := by decide +kernel
theorem d_Mo_coefficient_1 : decode prog_10_method_21_code 1 = .ok (.iconst 0, 1) := by decide +kernel
theorem d_Mo_coefficient_2 : decode prog_10_method_21_code 2 = .ok (.putfield 79, 3) := by decide +kernel
theorem d_Mo_coefficient_5 : decode prog_10_method_21_code 5 = .ok (.iload_n 1, 1) := by decide +kernel
theorem d_Mo_coefficient_6 : decode prog_10_method_21_code 6 = .ok (.ifCond .lt 11, 3) := by decide +kernel
theorem d_Mo_coefficient_9 : decode prog_10_method_21_code 9 = .ok (.iload_n 1, 1) := by decide +kernel
theorem d_Mo_coefficient_10 : decode prog_10_method_21_code 10 = .ok (.aload_n 0, 1) := by decide +kernel
theorem d_Mo_coefficient_11 : decode prog_10_method_21_code 11 = .ok (.getfield 86, 3) := by decide +kernel
theorem d_Mo_coefficient_14 : decode prog_10_method_21_code 14 = .ok (.if_icmp .le 5, 3) := by decide +kernel
theorem d_Mo_coefficient_17 : decode prog_10_method_21_code 17 = .ok (.lconst 0, 1) := by decide +kernel
theorem d_Mo_coefficient_18 : decode prog_10_method_21_code 18 = .ok (.lreturn, 1) := by decide +kernel
theorem d_Mo_coefficient_19 : decode prog_10_method_21_code 19 = .ok (.aload_n 0, 1) := by decide +kernel
theorem d_Mo_coefficient_20 : decode prog_10_method_21_code 20 = .ok (.invokevirtual 130, 3) := by decide +kernel
theorem d_Mo_coefficient_23 : decode prog_10_method_21_code 23 = .ok (.aload_n 0, 1) := by decide +kernel
theorem d_Mo_coefficient_24 : decode prog_10_method_21_code 24 = .ok (.getfield 52, 3) := by decide +kernel
theorem d_Mo_coefficient_27 : decode prog_10_method_21_code 27 = .ok (.iload_n 1, 1) := by decide +kernel
theorem d_Mo_coefficient_28 : decode prog_10_method_21_code 28 = .ok (.laload, 1) := by decide +kernel
theorem d_Mo_coefficient_29 : decode prog_10_method_21_code 29 = .ok (.lreturn, 1) := by decide +kernel
abbrev wd_Mo_coefficient (cI cJ cG cZ : ClassId) (a0 a0_from a0_to a0_near a0_lists a0_colours a0_shades a0_tints a0_attempt a0_taken a0_isApart a0_ways a0_next a0_splits a0_powers a0_row a0_many a0_can a0_could a0_arcRow a0_order a0_isOut : Nat) (v0_thrown : Int32) (v0_nodes : Int32) (v0_arcs : Int32) (v0_takenMany : Int32) (v0_leftBits : Int32) (v0_hasPolynomial : Int32) (v0_hasLists : Int32) (w0_near : Nat → Int32) (w0_isApart : Nat → Int32) (w0_next : Nat → Int64) (w0_splits : Nat → Int64) (w0_powers : Nat → Int64) : va_W := [(a0, .inr (8, [.int v0_thrown, .int v0_nodes, .int v0_arcs, .ref a0_from, .ref a0_to, .ref a0_near, .ref a0_lists, .ref a0_colours, .ref a0_shades, .ref a0_tints, .ref a0_attempt, .int v0_takenMany, .ref a0_taken, .int v0_leftBits, .ref a0_isApart, .ref a0_ways, .ref a0_next, .ref a0_splits, .ref a0_powers, .ref a0_row, .ref a0_many, .int v0_hasPolynomial, .int v0_hasLists, .ref a0_can, .ref a0_could, .ref a0_arcRow, .ref a0_order, .ref a0_isOut])), (a0_near, .inl (cI, 12, .inl w0_near)), (a0_isApart, .inl (cZ, 4096, .inl w0_isApart)), (a0_next, .inl (cJ, 4096, .inr (.inl w0_next))), (a0_splits, .inl (cJ, 53248, .inr (.inl w0_splits))), (a0_powers, .inl (cJ, 14, .inr (.inl w0_powers)))]
abbrev us_Mo_coefficient : List Cond := .code y_Mo_coefficient prog_10_method_21_code 2 (some .long) :: gtbl
abbrev rm_Mo_coefficient : Room := { frames := 2, cells := 0, slots := 0, locals := 50 }
def m_Mo_coefficient (F : Nat) (v0_thrown : Int32) (v0_nodes : Int32) (v0_arcs : Int32) (v0_takenMany : Int32) (v0_leftBits : Int32) (v0_hasPolynomial : Int32) (v0_hasLists : Int32) (w0_near : Nat → Int32) (w0_isApart : Nat → Int32) (w0_next : Nat → Int64) (w0_splits : Nat → Int64) (w0_powers : Nat → Int64) (p1 : Int32) : Option (Int64 × Int32 × Int32 × (Nat → Int32) × (Nat → Int64) × (Nat → Int64) × (Nat → Int64)) :=
  if p1 < 0 then (
    some (0, 0, v0_hasPolynomial, w0_isApart, w0_next, w0_splits, w0_powers)
  ) else (
    if p1 ≤ v0_nodes then (
      gM (m_Mo_polynomial F 0 v0_nodes v0_arcs v0_takenMany v0_leftBits v0_hasPolynomial v0_hasLists w0_near w0_isApart w0_next w0_splits w0_powers) (fun (z_9 : Int32 × (Nat → Int32) × (Nat → Int64) × (Nat → Int64) × (Nat → Int64)) => match z_9 with
      | (v0_hasPolynomial_3, w0_isApart_4, w0_next_5, w0_splits_6, w0_powers_7) =>
      gC (inb p1 14) (
      some (w0_powers_7 p1.toNatClampNeg, 0, v0_hasPolynomial_3, w0_isApart_4, w0_next_5, w0_splits_6, w0_powers_7)))
    ) else (
      some (0, 0, v0_hasPolynomial, w0_isApart, w0_next, w0_splits, w0_powers)
    )
  )
set_option maxHeartbeats 4000000 in
set_option maxRecDepth 100000 in
theorem c_Mo_coefficient (l : Launch) (dC : Nat → ClassId) (dI : Nat → Nat → Nat) (cI cJ cG cZ : ClassId) (a0 a0_from a0_to a0_near a0_lists a0_colours a0_shades a0_tints a0_attempt a0_taken a0_isApart a0_ways a0_next a0_splits a0_powers a0_row a0_many a0_can a0_could a0_arcRow a0_order a0_isOut : Nat) (sz : Nat) (F : Nat) (v0_thrown : Int32) (v0_nodes : Int32) (v0_arcs : Int32) (v0_takenMany : Int32) (v0_leftBits : Int32) (v0_hasPolynomial : Int32) (v0_hasLists : Int32) (w0_near : Nat → Int32) (w0_isApart : Nat → Int32) (w0_next : Nat → Int64) (w0_splits : Nat → Int64) (w0_powers : Nat → Int64) (p1 : Int32) (ret : Int64) (o_v0_thrown : Int32) (o_v0_hasPolynomial : Int32) (o_w0_isApart : Nat → Int32) (o_w0_next : Nat → Int64) (o_w0_splits : Nat → Int64) (o_w0_powers : Nat → Int64) (hm : m_Mo_coefficient F v0_thrown v0_nodes v0_arcs v0_takenMany v0_leftBits v0_hasPolynomial v0_hasLists w0_near w0_isApart w0_next w0_splits w0_powers p1 = some (ret, o_v0_thrown, o_v0_hasPolynomial, o_w0_isApart, o_w0_next, o_w0_splits, o_w0_powers)) : Met l y_Mo_coefficient us_Mo_coefficient rm_Mo_coefficient (PcS (dC, dI) (tyL cI cJ cG cZ) [.ref a0, .int p1] sz (wd_Mo_coefficient cI cJ cG cZ a0 a0_from a0_to a0_near a0_lists a0_colours a0_shades a0_tints a0_attempt a0_taken a0_isApart a0_ways a0_next a0_splits a0_powers a0_row a0_many a0_can a0_could a0_arcRow a0_order a0_isOut v0_thrown v0_nodes v0_arcs v0_takenMany v0_leftBits v0_hasPolynomial v0_hasLists w0_near w0_isApart w0_next w0_splits w0_powers)) (va_Ql (fun (r : Int64) (_ : Unit) => ret = r) (fun _ t => PoS (dC, dI) (tyL cI cJ cG cZ) (wd_Mo_coefficient cI cJ cG cZ a0 a0_from a0_to a0_near a0_lists a0_colours a0_shades a0_tints a0_attempt a0_taken a0_isApart a0_ways a0_next a0_splits a0_powers a0_row a0_many a0_can a0_could a0_arcRow a0_order a0_isOut o_v0_thrown v0_nodes v0_arcs v0_takenMany v0_leftBits o_v0_hasPolynomial v0_hasLists w0_near o_w0_isApart o_w0_next o_w0_splits o_w0_powers) (va_A (wd_Mo_coefficient cI cJ cG cZ a0 a0_from a0_to a0_near a0_lists a0_colours a0_shades a0_tints a0_attempt a0_taken a0_isApart a0_ways a0_next a0_splits a0_powers a0_row a0_many a0_can a0_could a0_arcRow a0_order a0_isOut v0_thrown v0_nodes v0_arcs v0_takenMany v0_leftBits v0_hasPolynomial v0_hasLists w0_near w0_isApart w0_next w0_splits w0_powers) sz) t) (va_A (wd_Mo_coefficient cI cJ cG cZ a0 a0_from a0_to a0_near a0_lists a0_colours a0_shades a0_tints a0_attempt a0_taken a0_isApart a0_ways a0_next a0_splits a0_powers a0_row a0_many a0_can a0_could a0_arcRow a0_order a0_isOut v0_thrown v0_nodes v0_arcs v0_takenMany v0_leftBits v0_hasPolynomial v0_hasLists w0_near w0_isApart w0_next w0_splits w0_powers) sz)) 0 0 (va_A (wd_Mo_coefficient cI cJ cG cZ a0 a0_from a0_to a0_near a0_lists a0_colours a0_shades a0_tints a0_attempt a0_taken a0_isApart a0_ways a0_next a0_splits a0_powers a0_row a0_many a0_can a0_could a0_arcRow a0_order a0_isOut v0_thrown v0_nodes v0_arcs v0_takenMany v0_leftBits v0_hasPolynomial v0_hasLists w0_near w0_isApart w0_next w0_splits w0_powers) sz) := by
  refine Met.ofW (cc := prog_10_method_21_code) (maxL := 2) (ret := (some .long)) (by decide) rfl ?_
  intro p e s m args below meth c s₁ B hml hv
  obtain ⟨rfl, hsz, hP, hK, hD0, hNw⟩ := hv
  have hx := B.exec
  have hb := B.bytes
  have hr := B.returns
  have htt : ∀ w ∈ gtbl, w.before _ s = true := fun w h => atoms_spec (ws := us_Mo_coefficient) B.pre w (List.mem_cons_of_mem _ h)
  have hown : s.vm.findClass R_Mo = some m.cls := findClass_of_methodNamed B.named
  have hlocks := B.notSynchronized
  subst hsz
  have hD := hD0.self (sz := s.heap.size)
  generalize hAe : va_A (wd_Mo_coefficient cI cJ cG cZ a0 a0_from a0_to a0_near a0_lists a0_colours a0_shades a0_tints a0_attempt a0_taken a0_isApart a0_ways a0_next a0_splits a0_powers a0_row a0_many a0_can a0_could a0_arcRow a0_order a0_isOut v0_thrown v0_nodes v0_arcs v0_takenMany v0_leftBits v0_hasPolynomial v0_hasLists w0_near w0_isApart w0_next w0_splits w0_powers) s.heap.size = A at hD ⊢
  have hA : ∀ q : Nat, s.heap.size ≤ q → A q := fun q h => by rw [← hAe]; exact Or.inr h
  clear hAe hD0
  have hS : va_S A s.heap s.heap [] := va_S.rf
  have hl := lv_entry ([.ref a0, .int p1]) (n := 2) (Nat.le_of_ble_eq_true rfl)
  rw [lg_entry_eq]
  generalize (lg_sl ([.ref a0, .int p1]) ++ List.replicate (2 - (lg_sl ([.ref a0, .int p1])).length) Slot.unset).toArray = ls at hl ⊢
  have hl : lv_has ls 2 [(0, .ref a0), (1, .int p1)] := hl
  generalize hH : s.heap = H at hP ⊢
  have hS : va_S A s.heap H [] := hH ▸ hS
  generalize hLo : ([] : List Loc) = locs at hS ⊢
  clear hH hLo
  unfold m_Mo_coefficient at hm
  refine lv_aload_n hx hb d_Mo_coefficient_0 rfl (lv_at hl 0 rfl) ?_
  refine lv_iconst (v := 0) hx hb d_Mo_coefficient_1 (by decide) ?_
  refine va_put (D := (dC, dI)) (ci := 8) (v := .int 0) (ty := .int) (C := R_Mo) (T := T_Mo) (N := 28) hx hb htt hin_Mo ty_Mo tyok_Mo nm_Mo hown hK hP hD hS 0 rfl rfl 0 (by decide) (htt _ kt_769) (fun _ h9 => h9) rfl (by decide +kernel) rfl rfl (Nat.le_of_ble_eq_true rfl) d_Mo_coefficient_2 (fun H locs hP hD hS => ?_)
  have hP : va_P (dC, dI) vwCl (wd_Mo_coefficient cI cJ cG cZ a0 a0_from a0_to a0_near a0_lists a0_colours a0_shades a0_tints a0_attempt a0_taken a0_isApart a0_ways a0_next a0_splits a0_powers a0_row a0_many a0_can a0_could a0_arcRow a0_order a0_isOut 0 v0_nodes v0_arcs v0_takenMany v0_leftBits v0_hasPolynomial v0_hasLists w0_near w0_isApart w0_next w0_splits w0_powers) H := hP
  have hD : va_D A (wd_Mo_coefficient cI cJ cG cZ a0 a0_from a0_to a0_near a0_lists a0_colours a0_shades a0_tints a0_attempt a0_taken a0_isApart a0_ways a0_next a0_splits a0_powers a0_row a0_many a0_can a0_could a0_arcRow a0_order a0_isOut 0 v0_nodes v0_arcs v0_takenMany v0_leftBits v0_hasPolynomial v0_hasLists w0_near w0_isApart w0_next w0_splits w0_powers) := hD
  refine lv_iload_n hx hb d_Mo_coefficient_5 rfl (lv_at hl 1 rfl) ?_
  refine lv_if_lt (tgt := 17) hx hb d_Mo_coefficient_6 (by decide) (fun c_1 => ?_) (fun c_1 => ?_)
  · have hm := ite_t c_1 hm
    refine lv_lconst (v := 0) hx hb d_Mo_coefficient_17 (by decide) ?_
    cases hm
    exact W.lret hx hb hr (fun t ht hW => ⟨⟨_, (), rfl, rfl, by rw [ht]; exact hP, va_K.moved hW.alike hK, hD⟩, hS.F ht⟩) hS.2.2 d_Mo_coefficient_18
  · have hm := ite_f c_1 hm
    refine lv_iload_n hx hb d_Mo_coefficient_9 rfl (lv_at hl 1 rfl) ?_
    refine lv_aload_n hx hb d_Mo_coefficient_10 rfl (lv_at hl 0 rfl) ?_
    refine va_get (D := (dC, dI)) (ci := 8) (v := .int v0_nodes) (C := R_Mo) (T := T_Mo) (N := 28) hx hb htt hin_Mo hown hK hP 0 rfl rfl 1 (by decide) (htt _ kt_770) (fun _ h9 => h9) rfl d_Mo_coefficient_11 ?_
    refine lv_icmp_le (tgt := 19) hx hb d_Mo_coefficient_14 (by decide) (fun c_2 => ?_) (fun c_2 => ?_)
    · have hm := ite_t c_2 hm
      refine lv_aload_n hx hb d_Mo_coefficient_19 rfl (lv_at hl 0 rfl) ?_
      obtain ⟨⟨v0_hasPolynomial_3, w0_isApart_4, w0_next_5, w0_splits_6, w0_powers_7⟩, hc_8, hm⟩ := gM_e hm
      dsimp only at hm
      have hPc : va_P (dC, dI) vwCl (wd_Mo_polynomial cI cJ cG cZ a0 a0_from a0_to a0_near a0_lists a0_colours a0_shades a0_tints a0_attempt a0_taken a0_isApart a0_ways a0_next a0_splits a0_powers a0_row a0_many a0_can a0_could a0_arcRow a0_order a0_isOut 0 v0_nodes v0_arcs v0_takenMany v0_leftBits v0_hasPolynomial v0_hasLists w0_near w0_isApart w0_next w0_splits w0_powers) H := hP.sub [0, 1, 2, 3, 4, 5] rfl
      have hDc : va_D A (wd_Mo_polynomial cI cJ cG cZ a0 a0_from a0_to a0_near a0_lists a0_colours a0_shades a0_tints a0_attempt a0_taken a0_isApart a0_ways a0_next a0_splits a0_powers a0_row a0_many a0_can a0_could a0_arcRow a0_order a0_isOut 0 v0_nodes v0_arcs v0_takenMany v0_leftBits v0_hasPolynomial v0_hasLists w0_near w0_isApart w0_next w0_splits w0_powers) := hD.sub [0, 1, 2, 3, 4, 5] (by decide) rfl
      have hFc : ∀ q, va_A (wd_Mo_polynomial cI cJ cG cZ a0 a0_from a0_to a0_near a0_lists a0_colours a0_shades a0_tints a0_attempt a0_taken a0_isApart a0_ways a0_next a0_splits a0_powers a0_row a0_many a0_can a0_could a0_arcRow a0_order a0_isOut 0 v0_nodes v0_arcs v0_takenMany v0_leftBits v0_hasPolynomial v0_hasLists w0_near w0_isApart w0_next w0_splits w0_powers) H.size q → A q := va_free hD hS hA [0, 1, 2, 3, 4, 5] rfl
      refine va_callv (va_runV (As := []) (rest := []) ⟨hx, hb, hml, hown, htt⟩ (c_Mo_polynomial l dC dI cI cJ cG cZ a0 a0_from a0_to a0_near a0_lists a0_colours a0_shades a0_tints a0_attempt a0_taken a0_isApart a0_ways a0_next a0_splits a0_powers a0_row a0_many a0_can a0_could a0_arcRow a0_order a0_isOut H.size F 0 v0_nodes v0_arcs v0_takenMany v0_leftBits v0_hasPolynomial v0_hasLists w0_near w0_isApart w0_next w0_splits w0_powers v0_hasPolynomial_3 w0_isApart_4 w0_next_5 w0_splits_6 w0_powers_7 hc_8) (cwV 0 htt (gdV kt_912 kt_914 kp_49 kt_10 kt_915) rfl rfl rfl (by decide +kernel) ⟨(Nat.le_of_ble_eq_true rfl), (Nat.le_of_ble_eq_true rfl)⟩) ⟨PcS_blind, va_recv hK hPc (ci := 8) (q0 := 0) rfl rfl, PcS_in hPc hK hDc hNw⟩ rfl rfl hl.1 rfl (lv_room (Nat.le_of_ble_eq_true rfl)) d_Mo_coefficient_20 ⟨Nat.zero_le _, Nat.zero_le _⟩) hS (fun q _ h => hFc q h) hFc (fun u t H1 locs ht hvm hw hB hz1 hk1 hS => ?_)
      obtain ⟨hP1, hK1, hD1⟩ := hB
      rw [ht] at hP1
      obtain ⟨hP, hD⟩ := va_join (wr := []) (w1 := (wd_Mo_polynomial cI cJ cG cZ a0 a0_from a0_to a0_near a0_lists a0_colours a0_shades a0_tints a0_attempt a0_taken a0_isApart a0_ways a0_next a0_splits a0_powers a0_row a0_many a0_can a0_could a0_arcRow a0_order a0_isOut 0 v0_nodes v0_arcs v0_takenMany v0_leftBits v0_hasPolynomial_3 v0_hasLists w0_near w0_isApart_4 w0_next_5 w0_splits_6 w0_powers_7)) hP hD [0, 1, 2, 3, 4, 5] [] rfl rfl (by decide) (by decide) hk1 hFc hP1 hD1
      have hP : va_P (dC, dI) vwCl (wd_Mo_coefficient cI cJ cG cZ a0 a0_from a0_to a0_near a0_lists a0_colours a0_shades a0_tints a0_attempt a0_taken a0_isApart a0_ways a0_next a0_splits a0_powers a0_row a0_many a0_can a0_could a0_arcRow a0_order a0_isOut 0 v0_nodes v0_arcs v0_takenMany v0_leftBits v0_hasPolynomial_3 v0_hasLists w0_near w0_isApart_4 w0_next_5 w0_splits_6 w0_powers_7) H1 := hP.sub [0, 1, 2, 3, 4, 5] rfl
      have hD : va_D A (wd_Mo_coefficient cI cJ cG cZ a0 a0_from a0_to a0_near a0_lists a0_colours a0_shades a0_tints a0_attempt a0_taken a0_isApart a0_ways a0_next a0_splits a0_powers a0_row a0_many a0_can a0_could a0_arcRow a0_order a0_isOut 0 v0_nodes v0_arcs v0_takenMany v0_leftBits v0_hasPolynomial_3 v0_hasLists w0_near w0_isApart_4 w0_next_5 w0_splits_6 w0_powers_7) := hD.sub [0, 1, 2, 3, 4, 5] (by decide) rfl
      clear hP1 hK1 hD1 hk1 hPc hDc hFc ht hvm hz1
      generalize H1 = H at hP hS ⊢
      refine lv_aload_n hx hb d_Mo_coefficient_23 rfl (lv_at hl 0 rfl) ?_
      refine va_get (D := (dC, dI)) (ci := 8) (v := .ref a0_powers) (C := R_Mo) (T := T_Mo) (N := 28) hx hb htt hin_Mo hown hK hP 0 rfl rfl 18 (by decide) (htt _ kt_787) (fun _ h9 => h9) rfl d_Mo_coefficient_24 ?_
      refine lv_iload_n hx hb d_Mo_coefficient_27 rfl (lv_at hl 1 rfl) ?_
      obtain ⟨hi_10, hm⟩ := gC_e hm
      refine va_lald hx hb hK hP 5 1 rfl rfl (inb_vp hi_10) d_Mo_coefficient_28 ?_
      cases hm
      exact W.lret hx hb hr (fun t ht hW => ⟨⟨_, (), rfl, rfl, by rw [ht]; exact hP, va_K.moved hW.alike hK, hD⟩, hS.F ht⟩) hS.2.2 d_Mo_coefficient_29
    · have hm := ite_f c_2 hm
      refine lv_lconst (v := 0) hx hb d_Mo_coefficient_17 (by decide) ?_
      cases hm
      exact W.lret hx hb hr (fun t ht hW => ⟨⟨_, (), rfl, rfl, by rw [ht]; exact hP, va_K.moved hW.alike hK, hD⟩, hS.F ht⟩) hS.2.2 d_Mo_coefficient_18
theorem d_Mo_list_0 : decode prog_10_method_22_code 0 = .ok (.aload_n 0, 1) := by decide +kernel
theorem d_Mo_list_1 : decode prog_10_method_22_code 1 = .ok (.iconst 0, 1) := by decide +kernel
theorem d_Mo_list_2 : decode prog_10_method_22_code 2 = .ok (.putfield 79, 3) := by decide +kernel
theorem d_Mo_list_5 : decode prog_10_method_22_code 5 = .ok (.aload_n 0, 1) := by decide +kernel
theorem d_Mo_list_6 : decode prog_10_method_22_code 6 = .ok (.iload_n 1, 1) := by decide +kernel
theorem d_Mo_list_7 : decode prog_10_method_22_code 7 = .ok (.invokevirtual 98, 3) := by decide +kernel
theorem d_Mo_list_10 : decode prog_10_method_22_code 10 = .ok (.ifCond .eq 14, 3) := by decide +kernel
theorem d_Mo_list_13 : decode prog_10_method_22_code 13 = .ok (.iload_n 2, 1) := by decide +kernel
theorem d_Mo_list_14 : decode prog_10_method_22_code 14 = .ok (.ifCond .lt 10, 3) := by decide +kernel
theorem d_Mo_list_17 : decode prog_10_method_22_code 17 = .ok (.iload_n 2, 1) := by decide +kernel
theorem d_Mo_list_18 : decode prog_10_method_22_code 18 = .ok (.sipush 4095, 3) := by decide +kernel
theorem d_Mo_list_21 : decode prog_10_method_22_code 21 = .ok (.if_icmp .le 5, 3) := by decide +kernel
theorem d_Mo_list_24 : decode prog_10_method_22_code 24 = .ok (.iconst 0, 1) := by decide +kernel
theorem d_Mo_list_25 : decode prog_10_method_22_code 25 = .ok (.ireturn, 1) := by decide +kernel
theorem d_Mo_list_26 : decode prog_10_method_22_code 26 = .ok (.aload_n 0, 1) := by decide +kernel
theorem d_Mo_list_27 : decode prog_10_method_22_code 27 = .ok (.invokevirtual 83, 3) := by decide +kernel
theorem d_Mo_list_30 : decode prog_10_method_22_code 30 = .ok (.aload_n 0, 1) := by decide +kernel
theorem d_Mo_list_31 : decode prog_10_method_22_code 31 = .ok (.getfield 19, 3) := by decide +kernel
theorem d_Mo_list_34 : decode prog_10_method_22_code 34 = .ok (.iload_n 1, 1) := by decide +kernel
theorem d_Mo_list_35 : decode prog_10_method_22_code 35 = .ok (.iload_n 2, 1) := by decide +kernel
theorem d_Mo_list_36 : decode prog_10_method_22_code 36 = .ok (.iastore, 1) := by decide +kernel
theorem d_Mo_list_37 : decode prog_10_method_22_code 37 = .ok (.iconst 1, 1) := by decide +kernel
theorem d_Mo_list_38 : decode prog_10_method_22_code 38 = .ok (.ireturn, 1) := by decide +kernel
abbrev wd_Mo_list (cI cJ cG cZ : ClassId) (a0 a0_from a0_to a0_near a0_lists a0_colours a0_shades a0_tints a0_attempt a0_taken a0_isApart a0_ways a0_next a0_splits a0_powers a0_row a0_many a0_can a0_could a0_arcRow a0_order a0_isOut : Nat) (v0_thrown : Int32) (v0_nodes : Int32) (v0_arcs : Int32) (v0_takenMany : Int32) (v0_leftBits : Int32) (v0_hasPolynomial : Int32) (v0_hasLists : Int32) (w0_lists : Nat → Int32) : va_W := [(a0, .inr (8, [.int v0_thrown, .int v0_nodes, .int v0_arcs, .ref a0_from, .ref a0_to, .ref a0_near, .ref a0_lists, .ref a0_colours, .ref a0_shades, .ref a0_tints, .ref a0_attempt, .int v0_takenMany, .ref a0_taken, .int v0_leftBits, .ref a0_isApart, .ref a0_ways, .ref a0_next, .ref a0_splits, .ref a0_powers, .ref a0_row, .ref a0_many, .int v0_hasPolynomial, .int v0_hasLists, .ref a0_can, .ref a0_could, .ref a0_arcRow, .ref a0_order, .ref a0_isOut])), (a0_lists, .inl (cI, 12, .inl w0_lists))]
abbrev us_Mo_list : List Cond := .code y_Mo_list prog_10_method_22_code 3 (some .boolean) :: gtbl
abbrev rm_Mo_list : Room := { frames := 1, cells := 0, slots := 0, locals := 21 }
def m_Mo_list (F : Nat) (v0_thrown : Int32) (v0_nodes : Int32) (v0_arcs : Int32) (v0_takenMany : Int32) (v0_leftBits : Int32) (v0_hasPolynomial : Int32) (v0_hasLists : Int32) (w0_lists : Nat → Int32) (p1 : Int32) (p2 : Int32) : Option (Int32 × Int32 × Int32 × Int32 × (Nat → Int32)) :=
  gM (m_Mo_isNode F 0 v0_nodes v0_arcs v0_takenMany v0_leftBits v0_hasPolynomial v0_hasLists p1) (fun q_1 =>
  if q_1 = 0 then (
    some (0, 0, v0_hasPolynomial, v0_hasLists, w0_lists)
  ) else (
    if p2 < 0 then (
      some (0, 0, v0_hasPolynomial, v0_hasLists, w0_lists)
    ) else (
      if p2 ≤ (4095 : Int32) then (
        gM (m_Mo_changed F 0 v0_nodes v0_arcs v0_takenMany v0_leftBits v0_hasPolynomial v0_hasLists) (fun (z_11 : Int32 × Int32) => match z_11 with
        | (v0_hasPolynomial_8, v0_hasLists_9) =>
        gC (inb p1 12) (
        some (1, 0, v0_hasPolynomial_8, v0_hasLists_9, upd w0_lists p1.toNatClampNeg p2)))
      ) else (
        some (0, 0, v0_hasPolynomial, v0_hasLists, w0_lists)
      )
    )
  ))
set_option maxHeartbeats 4000000 in
set_option maxRecDepth 100000 in
theorem c_Mo_list (l : Launch) (dC : Nat → ClassId) (dI : Nat → Nat → Nat) (cI cJ cG cZ : ClassId) (a0 a0_from a0_to a0_near a0_lists a0_colours a0_shades a0_tints a0_attempt a0_taken a0_isApart a0_ways a0_next a0_splits a0_powers a0_row a0_many a0_can a0_could a0_arcRow a0_order a0_isOut : Nat) (sz : Nat) (F : Nat) (v0_thrown : Int32) (v0_nodes : Int32) (v0_arcs : Int32) (v0_takenMany : Int32) (v0_leftBits : Int32) (v0_hasPolynomial : Int32) (v0_hasLists : Int32) (w0_lists : Nat → Int32) (p1 : Int32) (p2 : Int32) (ret : Int32) (o_v0_thrown : Int32) (o_v0_hasPolynomial : Int32) (o_v0_hasLists : Int32) (o_w0_lists : Nat → Int32) (hm : m_Mo_list F v0_thrown v0_nodes v0_arcs v0_takenMany v0_leftBits v0_hasPolynomial v0_hasLists w0_lists p1 p2 = some (ret, o_v0_thrown, o_v0_hasPolynomial, o_v0_hasLists, o_w0_lists)) : Met l y_Mo_list us_Mo_list rm_Mo_list (PcS (dC, dI) (tyL cI cJ cG cZ) [.ref a0, .int p1, .int p2] sz (wd_Mo_list cI cJ cG cZ a0 a0_from a0_to a0_near a0_lists a0_colours a0_shades a0_tints a0_attempt a0_taken a0_isApart a0_ways a0_next a0_splits a0_powers a0_row a0_many a0_can a0_could a0_arcRow a0_order a0_isOut v0_thrown v0_nodes v0_arcs v0_takenMany v0_leftBits v0_hasPolynomial v0_hasLists w0_lists)) (va_Qi (fun (r : Int32) (_ : Unit) => ret = r ∧ bz r) (fun _ t => PoS (dC, dI) (tyL cI cJ cG cZ) (wd_Mo_list cI cJ cG cZ a0 a0_from a0_to a0_near a0_lists a0_colours a0_shades a0_tints a0_attempt a0_taken a0_isApart a0_ways a0_next a0_splits a0_powers a0_row a0_many a0_can a0_could a0_arcRow a0_order a0_isOut o_v0_thrown v0_nodes v0_arcs v0_takenMany v0_leftBits o_v0_hasPolynomial o_v0_hasLists o_w0_lists) (va_A (wd_Mo_list cI cJ cG cZ a0 a0_from a0_to a0_near a0_lists a0_colours a0_shades a0_tints a0_attempt a0_taken a0_isApart a0_ways a0_next a0_splits a0_powers a0_row a0_many a0_can a0_could a0_arcRow a0_order a0_isOut v0_thrown v0_nodes v0_arcs v0_takenMany v0_leftBits v0_hasPolynomial v0_hasLists w0_lists) sz) t) (va_A (wd_Mo_list cI cJ cG cZ a0 a0_from a0_to a0_near a0_lists a0_colours a0_shades a0_tints a0_attempt a0_taken a0_isApart a0_ways a0_next a0_splits a0_powers a0_row a0_many a0_can a0_could a0_arcRow a0_order a0_isOut v0_thrown v0_nodes v0_arcs v0_takenMany v0_leftBits v0_hasPolynomial v0_hasLists w0_lists) sz)) 0 0 (va_A (wd_Mo_list cI cJ cG cZ a0 a0_from a0_to a0_near a0_lists a0_colours a0_shades a0_tints a0_attempt a0_taken a0_isApart a0_ways a0_next a0_splits a0_powers a0_row a0_many a0_can a0_could a0_arcRow a0_order a0_isOut v0_thrown v0_nodes v0_arcs v0_takenMany v0_leftBits v0_hasPolynomial v0_hasLists w0_lists) sz) := by
  refine Met.ofW (cc := prog_10_method_22_code) (maxL := 3) (ret := (some .boolean)) (by decide) rfl ?_
  intro p e s m args below meth c s₁ B hml hv
  obtain ⟨rfl, hsz, hP, hK, hD0, hNw⟩ := hv
  have hx := B.exec
  have hb := B.bytes
  have hr := B.returns
  have htt : ∀ w ∈ gtbl, w.before _ s = true := fun w h => atoms_spec (ws := us_Mo_list) B.pre w (List.mem_cons_of_mem _ h)
  have hown : s.vm.findClass R_Mo = some m.cls := findClass_of_methodNamed B.named
  have hlocks := B.notSynchronized
  subst hsz
  have hD := hD0.self (sz := s.heap.size)
  generalize hAe : va_A (wd_Mo_list cI cJ cG cZ a0 a0_from a0_to a0_near a0_lists a0_colours a0_shades a0_tints a0_attempt a0_taken a0_isApart a0_ways a0_next a0_splits a0_powers a0_row a0_many a0_can a0_could a0_arcRow a0_order a0_isOut v0_thrown v0_nodes v0_arcs v0_takenMany v0_leftBits v0_hasPolynomial v0_hasLists w0_lists) s.heap.size = A at hD ⊢
  have hA : ∀ q : Nat, s.heap.size ≤ q → A q := fun q h => by rw [← hAe]; exact Or.inr h
  clear hAe hD0
  have hS : va_S A s.heap s.heap [] := va_S.rf
  have hl := lv_entry ([.ref a0, .int p1, .int p2]) (n := 3) (Nat.le_of_ble_eq_true rfl)
  rw [lg_entry_eq]
  generalize (lg_sl ([.ref a0, .int p1, .int p2]) ++ List.replicate (3 - (lg_sl ([.ref a0, .int p1, .int p2])).length) Slot.unset).toArray = ls at hl ⊢
  have hl : lv_has ls 3 [(0, .ref a0), (1, .int p1), (2, .int p2)] := hl
  generalize hH : s.heap = H at hP ⊢
  have hS : va_S A s.heap H [] := hH ▸ hS
  generalize hLo : ([] : List Loc) = locs at hS ⊢
  clear hH hLo
  unfold m_Mo_list at hm
  refine lv_aload_n hx hb d_Mo_list_0 rfl (lv_at hl 0 rfl) ?_
  refine lv_iconst (v := 0) hx hb d_Mo_list_1 (by decide) ?_
  refine va_put (D := (dC, dI)) (ci := 8) (v := .int 0) (ty := .int) (C := R_Mo) (T := T_Mo) (N := 28) hx hb htt hin_Mo ty_Mo tyok_Mo nm_Mo hown hK hP hD hS 0 rfl rfl 0 (by decide) (htt _ kt_769) (fun _ h9 => h9) rfl (by decide +kernel) rfl rfl (Nat.le_of_ble_eq_true rfl) d_Mo_list_2 (fun H locs hP hD hS => ?_)
  have hP : va_P (dC, dI) vwCl (wd_Mo_list cI cJ cG cZ a0 a0_from a0_to a0_near a0_lists a0_colours a0_shades a0_tints a0_attempt a0_taken a0_isApart a0_ways a0_next a0_splits a0_powers a0_row a0_many a0_can a0_could a0_arcRow a0_order a0_isOut 0 v0_nodes v0_arcs v0_takenMany v0_leftBits v0_hasPolynomial v0_hasLists w0_lists) H := hP
  have hD : va_D A (wd_Mo_list cI cJ cG cZ a0 a0_from a0_to a0_near a0_lists a0_colours a0_shades a0_tints a0_attempt a0_taken a0_isApart a0_ways a0_next a0_splits a0_powers a0_row a0_many a0_can a0_could a0_arcRow a0_order a0_isOut 0 v0_nodes v0_arcs v0_takenMany v0_leftBits v0_hasPolynomial v0_hasLists w0_lists) := hD
  refine lv_aload_n hx hb d_Mo_list_5 rfl (lv_at hl 0 rfl) ?_
  refine lv_iload_n hx hb d_Mo_list_6 rfl (lv_at hl 1 rfl) ?_
  obtain ⟨q_1, hc_2, hm⟩ := gM_e hm
  have hPc : va_P (dC, dI) vwCl (wd_Mo_isNode cI cJ cG cZ a0 a0_from a0_to a0_near a0_lists a0_colours a0_shades a0_tints a0_attempt a0_taken a0_isApart a0_ways a0_next a0_splits a0_powers a0_row a0_many a0_can a0_could a0_arcRow a0_order a0_isOut 0 v0_nodes v0_arcs v0_takenMany v0_leftBits v0_hasPolynomial v0_hasLists) H := hP.sub [0] rfl
  have hDc : va_D A (wd_Mo_isNode cI cJ cG cZ a0 a0_from a0_to a0_near a0_lists a0_colours a0_shades a0_tints a0_attempt a0_taken a0_isApart a0_ways a0_next a0_splits a0_powers a0_row a0_many a0_can a0_could a0_arcRow a0_order a0_isOut 0 v0_nodes v0_arcs v0_takenMany v0_leftBits v0_hasPolynomial v0_hasLists) := hD.sub [0] (by decide) rfl
  have hFc : ∀ q, va_A (wd_Mo_isNode cI cJ cG cZ a0 a0_from a0_to a0_near a0_lists a0_colours a0_shades a0_tints a0_attempt a0_taken a0_isApart a0_ways a0_next a0_splits a0_powers a0_row a0_many a0_can a0_could a0_arcRow a0_order a0_isOut 0 v0_nodes v0_arcs v0_takenMany v0_leftBits v0_hasPolynomial v0_hasLists) H.size q → A q := va_free hD hS hA [0] rfl
  refine va_calli (va_runV (As := [.int p1]) (rest := []) ⟨hx, hb, hml, hown, htt⟩ (c_Mo_isNode l dC dI cI cJ cG cZ a0 a0_from a0_to a0_near a0_lists a0_colours a0_shades a0_tints a0_attempt a0_taken a0_isApart a0_ways a0_next a0_splits a0_powers a0_row a0_many a0_can a0_could a0_arcRow a0_order a0_isOut H.size F 0 v0_nodes v0_arcs v0_takenMany v0_leftBits v0_hasPolynomial v0_hasLists p1 q_1 hc_2) (cwV 1 htt (gdV kt_868 kt_870 kp_43 kt_10 kt_871) rfl rfl rfl (by decide +kernel) ⟨(Nat.le_of_ble_eq_true rfl), (Nat.le_of_ble_eq_true rfl)⟩) ⟨PcS_blind, va_recv hK hPc (ci := 8) (q0 := 0) rfl rfl, PcS_in hPc hK hDc hNw⟩ rfl rfl hl.1 rfl (lv_room (Nat.le_of_ble_eq_true rfl)) d_Mo_list_7 ⟨Nat.zero_le _, Nat.zero_le _⟩) hS (fun q _ h => hFc q h) hFc (fun r_3 u t H1 locs ht hvm hw hB hz1 hk1 hS => ?_)
  obtain ⟨hP1, hK1, hD1⟩ := hB
  rw [ht] at hP1
  obtain ⟨hw, hz_4⟩ := hw
  subst hw
  obtain ⟨hP, hD⟩ := va_join (wr := [(a0_lists, .inl (cI, 12, .inl w0_lists))]) (w1 := (wd_Mo_isNode cI cJ cG cZ a0 a0_from a0_to a0_near a0_lists a0_colours a0_shades a0_tints a0_attempt a0_taken a0_isApart a0_ways a0_next a0_splits a0_powers a0_row a0_many a0_can a0_could a0_arcRow a0_order a0_isOut 0 v0_nodes v0_arcs v0_takenMany v0_leftBits v0_hasPolynomial v0_hasLists)) hP hD [0] [1] rfl rfl (by decide) (by decide) hk1 hFc hP1 hD1
  have hP : va_P (dC, dI) vwCl (wd_Mo_list cI cJ cG cZ a0 a0_from a0_to a0_near a0_lists a0_colours a0_shades a0_tints a0_attempt a0_taken a0_isApart a0_ways a0_next a0_splits a0_powers a0_row a0_many a0_can a0_could a0_arcRow a0_order a0_isOut 0 v0_nodes v0_arcs v0_takenMany v0_leftBits v0_hasPolynomial v0_hasLists w0_lists) H1 := hP.sub [1, 0] rfl
  have hD : va_D A (wd_Mo_list cI cJ cG cZ a0 a0_from a0_to a0_near a0_lists a0_colours a0_shades a0_tints a0_attempt a0_taken a0_isApart a0_ways a0_next a0_splits a0_powers a0_row a0_many a0_can a0_could a0_arcRow a0_order a0_isOut 0 v0_nodes v0_arcs v0_takenMany v0_leftBits v0_hasPolynomial v0_hasLists w0_lists) := hD.sub [1, 0] (by decide) rfl
  clear hP1 hK1 hD1 hk1 hPc hDc hFc ht hvm hz1
  generalize H1 = H at hP hS ⊢
  refine lv_if_eq (tgt := 24) hx hb d_Mo_list_10 (by decide) (fun c_5 => ?_) (fun c_5 => ?_)
  · have hm := ite_t c_5 hm
    refine lv_iconst (v := 0) hx hb d_Mo_list_24 (by decide) ?_
    cases hm
    exact W.zret (ty := .boolean) hx hb hr (bz_nar (by decide : bz 0)) (fun t ht hW => ⟨⟨_, (), rfl, ⟨rfl, (by decide : bz 0)⟩, by rw [ht]; exact hP, va_K.moved hW.alike hK, hD⟩, hS.F ht⟩) hS.2.2 d_Mo_list_25
  · have hm := ite_f c_5 hm
    refine lv_iload_n hx hb d_Mo_list_13 rfl (lv_at hl 2 rfl) ?_
    refine lv_if_lt (tgt := 24) hx hb d_Mo_list_14 (by decide) (fun c_6 => ?_) (fun c_6 => ?_)
    · have hm := ite_t c_6 hm
      refine lv_iconst (v := 0) hx hb d_Mo_list_24 (by decide) ?_
      cases hm
      exact W.zret (ty := .boolean) hx hb hr (bz_nar (by decide : bz 0)) (fun t ht hW => ⟨⟨_, (), rfl, ⟨rfl, (by decide : bz 0)⟩, by rw [ht]; exact hP, va_K.moved hW.alike hK, hD⟩, hS.F ht⟩) hS.2.2 d_Mo_list_25
    · have hm := ite_f c_6 hm
      refine lv_iload_n hx hb d_Mo_list_17 rfl (lv_at hl 2 rfl) ?_
      refine lv_sipush (v := 4095) hx hb d_Mo_list_18 (by decide) ?_
      refine lv_icmp_le (tgt := 26) hx hb d_Mo_list_21 (by decide) (fun c_7 => ?_) (fun c_7 => ?_)
      · have hm := ite_t c_7 hm
        refine lv_aload_n hx hb d_Mo_list_26 rfl (lv_at hl 0 rfl) ?_
        obtain ⟨⟨v0_hasPolynomial_8, v0_hasLists_9⟩, hc_10, hm⟩ := gM_e hm
        dsimp only at hm
        have hPc : va_P (dC, dI) vwCl (wd_Mo_changed cI cJ cG cZ a0 a0_from a0_to a0_near a0_lists a0_colours a0_shades a0_tints a0_attempt a0_taken a0_isApart a0_ways a0_next a0_splits a0_powers a0_row a0_many a0_can a0_could a0_arcRow a0_order a0_isOut 0 v0_nodes v0_arcs v0_takenMany v0_leftBits v0_hasPolynomial v0_hasLists) H := hP.sub [0] rfl
        have hDc : va_D A (wd_Mo_changed cI cJ cG cZ a0 a0_from a0_to a0_near a0_lists a0_colours a0_shades a0_tints a0_attempt a0_taken a0_isApart a0_ways a0_next a0_splits a0_powers a0_row a0_many a0_can a0_could a0_arcRow a0_order a0_isOut 0 v0_nodes v0_arcs v0_takenMany v0_leftBits v0_hasPolynomial v0_hasLists) := hD.sub [0] (by decide) rfl
        have hFc : ∀ q, va_A (wd_Mo_changed cI cJ cG cZ a0 a0_from a0_to a0_near a0_lists a0_colours a0_shades a0_tints a0_attempt a0_taken a0_isApart a0_ways a0_next a0_splits a0_powers a0_row a0_many a0_can a0_could a0_arcRow a0_order a0_isOut 0 v0_nodes v0_arcs v0_takenMany v0_leftBits v0_hasPolynomial v0_hasLists) H.size q → A q := va_free hD hS hA [0] rfl
        refine va_callv (va_runV (As := []) (rest := []) ⟨hx, hb, hml, hown, htt⟩ (c_Mo_changed l dC dI cI cJ cG cZ a0 a0_from a0_to a0_near a0_lists a0_colours a0_shades a0_tints a0_attempt a0_taken a0_isApart a0_ways a0_next a0_splits a0_powers a0_row a0_many a0_can a0_could a0_arcRow a0_order a0_isOut H.size F 0 v0_nodes v0_arcs v0_takenMany v0_leftBits v0_hasPolynomial v0_hasLists v0_hasPolynomial_8 v0_hasLists_9 hc_10) (cwV 0 htt (gdV kt_765 kt_767 kp_42 kt_10 kt_768) rfl rfl rfl (by decide +kernel) ⟨(Nat.le_of_ble_eq_true rfl), (Nat.le_of_ble_eq_true rfl)⟩) ⟨PcS_blind, va_recv hK hPc (ci := 8) (q0 := 0) rfl rfl, PcS_in hPc hK hDc hNw⟩ rfl rfl hl.1 rfl (lv_room (Nat.le_of_ble_eq_true rfl)) d_Mo_list_27 ⟨Nat.zero_le _, Nat.zero_le _⟩) hS (fun q _ h => hFc q h) hFc (fun u t H1 locs ht hvm hw hB hz1 hk1 hS => ?_)
        obtain ⟨hP1, hK1, hD1⟩ := hB
        rw [ht] at hP1
        obtain ⟨hP, hD⟩ := va_join (wr := [(a0_lists, .inl (cI, 12, .inl w0_lists))]) (w1 := (wd_Mo_changed cI cJ cG cZ a0 a0_from a0_to a0_near a0_lists a0_colours a0_shades a0_tints a0_attempt a0_taken a0_isApart a0_ways a0_next a0_splits a0_powers a0_row a0_many a0_can a0_could a0_arcRow a0_order a0_isOut 0 v0_nodes v0_arcs v0_takenMany v0_leftBits v0_hasPolynomial_8 v0_hasLists_9)) hP hD [0] [1] rfl rfl (by decide) (by decide) hk1 hFc hP1 hD1
        have hP : va_P (dC, dI) vwCl (wd_Mo_list cI cJ cG cZ a0 a0_from a0_to a0_near a0_lists a0_colours a0_shades a0_tints a0_attempt a0_taken a0_isApart a0_ways a0_next a0_splits a0_powers a0_row a0_many a0_can a0_could a0_arcRow a0_order a0_isOut 0 v0_nodes v0_arcs v0_takenMany v0_leftBits v0_hasPolynomial_8 v0_hasLists_9 w0_lists) H1 := hP.sub [1, 0] rfl
        have hD : va_D A (wd_Mo_list cI cJ cG cZ a0 a0_from a0_to a0_near a0_lists a0_colours a0_shades a0_tints a0_attempt a0_taken a0_isApart a0_ways a0_next a0_splits a0_powers a0_row a0_many a0_can a0_could a0_arcRow a0_order a0_isOut 0 v0_nodes v0_arcs v0_takenMany v0_leftBits v0_hasPolynomial_8 v0_hasLists_9 w0_lists) := hD.sub [1, 0] (by decide) rfl
        clear hP1 hK1 hD1 hk1 hPc hDc hFc ht hvm hz1
        generalize H1 = H at hP hS ⊢
        refine lv_aload_n hx hb d_Mo_list_30 rfl (lv_at hl 0 rfl) ?_
        refine va_get (D := (dC, dI)) (ci := 8) (v := .ref a0_lists) (C := R_Mo) (T := T_Mo) (N := 28) hx hb htt hin_Mo hown hK hP 0 rfl rfl 6 (by decide) (htt _ kt_775) (fun _ h9 => h9) rfl d_Mo_list_31 ?_
        refine lv_iload_n hx hb d_Mo_list_34 rfl (lv_at hl 1 rfl) ?_
        refine lv_iload_n hx hb d_Mo_list_35 rfl (lv_at hl 2 rfl) ?_
        obtain ⟨hi_12, hm⟩ := gC_e hm
        refine va_iast hx hb hK hP hD hS 1 0 rfl rfl (inb_vp hi_12) d_Mo_list_36 (fun H locs hP hD hS => ?_)
        have hP : va_P (dC, dI) vwCl (wd_Mo_list cI cJ cG cZ a0 a0_from a0_to a0_near a0_lists a0_colours a0_shades a0_tints a0_attempt a0_taken a0_isApart a0_ways a0_next a0_splits a0_powers a0_row a0_many a0_can a0_could a0_arcRow a0_order a0_isOut 0 v0_nodes v0_arcs v0_takenMany v0_leftBits v0_hasPolynomial_8 v0_hasLists_9 (upd w0_lists p1.toNatClampNeg p2)) H := hP
        have hD : va_D A (wd_Mo_list cI cJ cG cZ a0 a0_from a0_to a0_near a0_lists a0_colours a0_shades a0_tints a0_attempt a0_taken a0_isApart a0_ways a0_next a0_splits a0_powers a0_row a0_many a0_can a0_could a0_arcRow a0_order a0_isOut 0 v0_nodes v0_arcs v0_takenMany v0_leftBits v0_hasPolynomial_8 v0_hasLists_9 (upd w0_lists p1.toNatClampNeg p2)) := hD
        refine lv_iconst (v := 1) hx hb d_Mo_list_37 (by decide) ?_
        cases hm
        exact W.zret (ty := .boolean) hx hb hr (bz_nar (by decide : bz 1)) (fun t ht hW => ⟨⟨_, (), rfl, ⟨rfl, (by decide : bz 1)⟩, by rw [ht]; exact hP, va_K.moved hW.alike hK, hD⟩, hS.F ht⟩) hS.2.2 d_Mo_list_38
      · have hm := ite_f c_7 hm
        refine lv_iconst (v := 0) hx hb d_Mo_list_24 (by decide) ?_
        cases hm
        exact W.zret (ty := .boolean) hx hb hr (bz_nar (by decide : bz 0)) (fun t ht hW => ⟨⟨_, (), rfl, ⟨rfl, (by decide : bz 0)⟩, by rw [ht]; exact hP, va_K.moved hW.alike hK, hD⟩, hS.F ht⟩) hS.2.2 d_Mo_list_25
theorem d_Mo_canGoOn_0 : decode prog_10_method_24_code 0 = .ok (.iconst 1, 1) := by decide +kernel
theorem d_Mo_canGoOn_1 : decode prog_10_method_24_code 1 = .ok (.aload_n 0, 1) := by decide +kernel
theorem d_Mo_canGoOn_2 : decode prog_10_method_24_code 2 = .ok (.getfield 86, 3) := by decide +kernel
theorem d_Mo_canGoOn_5 : decode prog_10_method_24_code 5 = .ok (.iload_n 1, 1) := by decide +kernel
theorem d_Mo_canGoOn_6 : decode prog_10_method_24_code 6 = .ok (.isub, 1) := by decide +kernel
theorem d_Mo_canGoOn_7 : decode prog_10_method_24_code 7 = .ok (.ishl, 1) := by decide +kernel
theorem d_Mo_canGoOn_8 : decode prog_10_method_24_code 8 = .ok (.iconst 1, 1) := by decide +kernel
theorem d_Mo_canGoOn_9 : decode prog_10_method_24_code 9 = .ok (.isub, 1) := by decide +kernel
theorem d_Mo_canGoOn_10 : decode prog_10_method_24_code 10 = .ok (.istore_n 2, 1) := by decide +kernel
theorem d_Mo_canGoOn_11 : decode prog_10_method_24_code 11 = .ok (.iconst 0, 1) := by decide +kernel
theorem d_Mo_canGoOn_12 : decode prog_10_method_24_code 12 = .ok (.istore_n 3, 1) := by decide +kernel
theorem d_Mo_canGoOn_13 : decode prog_10_method_24_code 13 = .ok (.iload_n 3, 1) := by decide +kernel
theorem d_Mo_canGoOn_14 : decode prog_10_method_24_code 14 = .ok (.iload_n 2, 1) := by decide +kernel
theorem d_Mo_canGoOn_15 : decode prog_10_method_24_code 15 = .ok (.if_icmp .gt 24, 3) := by decide +kernel
theorem d_Mo_canGoOn_18 : decode prog_10_method_24_code 18 = .ok (.aload_n 0, 1) := by decide +kernel
theorem d_Mo_canGoOn_19 : decode prog_10_method_24_code 19 = .ok (.getfield 61, 3) := by decide +kernel
theorem d_Mo_canGoOn_22 : decode prog_10_method_24_code 22 = .ok (.iload_n 3, 1) := by decide +kernel
theorem d_Mo_canGoOn_23 : decode prog_10_method_24_code 23 = .ok (.iload_n 3, 1) := by decide +kernel
theorem d_Mo_canGoOn_24 : decode prog_10_method_24_code 24 = .ok (.ifCond .ne 7, 3) := by decide +kernel
theorem d_Mo_canGoOn_27 : decode prog_10_method_24_code 27 = .ok (.iconst 1, 1) := by decide +kernel
theorem d_Mo_canGoOn_28 : decode prog_10_method_24_code 28 = .ok (.goto 4, 3) := by decide +kernel
theorem d_Mo_canGoOn_31 : decode prog_10_method_24_code 31 = .ok (.iconst 0, 1) := by decide +kernel
theorem d_Mo_canGoOn_32 : decode prog_10_method_24_code 32 = .ok (.bastore, 1) := by decide +kernel
theorem d_Mo_canGoOn_33 : decode prog_10_method_24_code 33 = .ok (.iinc 3 1, 3) := by decide +kernel
theorem d_Mo_canGoOn_36 : decode prog_10_method_24_code 36 = .ok (.goto (-23), 3) := by decide +kernel
theorem d_Mo_canGoOn_39 : decode prog_10_method_24_code 39 = .ok (.iconst 0, 1) := by decide +kernel
theorem d_Mo_canGoOn_40 : decode prog_10_method_24_code 40 = .ok (.istore_n 3, 1) := by decide +kernel
theorem d_Mo_canGoOn_41 : decode prog_10_method_24_code 41 = .ok (.iload_n 3, 1) := by decide +kernel
theorem d_Mo_canGoOn_42 : decode prog_10_method_24_code 42 = .ok (.bipush 12, 2) := by decide +kernel
theorem d_Mo_canGoOn_44 : decode prog_10_method_24_code 44 = .ok (.if_icmp .ge 258, 3) := by decide +kernel
theorem d_Mo_canGoOn_47 : decode prog_10_method_24_code 47 = .ok (.iconst 0, 1) := by decide +kernel
theorem d_Mo_canGoOn_48 : decode prog_10_method_24_code 48 = .ok (.istore 4, 2) := by decide +kernel
theorem d_Mo_canGoOn_50 : decode prog_10_method_24_code 50 = .ok (.iload_n 1, 1) := by decide +kernel
theorem d_Mo_canGoOn_51 : decode prog_10_method_24_code 51 = .ok (.istore 5, 2) := by decide +kernel
theorem d_Mo_canGoOn_53 : decode prog_10_method_24_code 53 = .ok (.iload 5, 2) := by decide +kernel
theorem d_Mo_canGoOn_55 : decode prog_10_method_24_code 55 = .ok (.aload_n 0, 1) := by decide +kernel
theorem d_Mo_canGoOn_56 : decode prog_10_method_24_code 56 = .ok (.getfield 86, 3) := by decide +kernel
theorem d_Mo_canGoOn_59 : decode prog_10_method_24_code 59 = .ok (.if_icmp .ge 105, 3) := by decide +kernel
theorem d_Mo_canGoOn_62 : decode prog_10_method_24_code 62 = .ok (.aload_n 0, 1) := by decide +kernel
theorem d_Mo_canGoOn_63 : decode prog_10_method_24_code 63 = .ok (.getfield 19, 3) := by decide +kernel
theorem d_Mo_canGoOn_66 : decode prog_10_method_24_code 66 = .ok (.iload 5, 2) := by decide +kernel
theorem d_Mo_canGoOn_68 : decode prog_10_method_24_code 68 = .ok (.iaload, 1) := by decide +kernel
theorem d_Mo_canGoOn_69 : decode prog_10_method_24_code 69 = .ok (.iload_n 3, 1) := by decide +kernel
theorem d_Mo_canGoOn_70 : decode prog_10_method_24_code 70 = .ok (.ishr, 1) := by decide +kernel
theorem d_Mo_canGoOn_71 : decode prog_10_method_24_code 71 = .ok (.iconst 1, 1) := by decide +kernel
theorem d_Mo_canGoOn_72 : decode prog_10_method_24_code 72 = .ok (.iand, 1) := by decide +kernel
theorem d_Mo_canGoOn_73 : decode prog_10_method_24_code 73 = .ok (.iconst 1, 1) := by decide +kernel
theorem d_Mo_canGoOn_74 : decode prog_10_method_24_code 74 = .ok (.if_icmp .ne 7, 3) := by decide +kernel
theorem d_Mo_canGoOn_77 : decode prog_10_method_24_code 77 = .ok (.iconst 1, 1) := by decide +kernel
theorem d_Mo_canGoOn_78 : decode prog_10_method_24_code 78 = .ok (.goto 4, 3) := by decide +kernel
theorem d_Mo_canGoOn_81 : decode prog_10_method_24_code 81 = .ok (.iconst 0, 1) := by decide +kernel
theorem d_Mo_canGoOn_82 : decode prog_10_method_24_code 82 = .ok (.istore 6, 2) := by decide +kernel
theorem d_Mo_canGoOn_84 : decode prog_10_method_24_code 84 = .ok (.iconst 0, 1) := by decide +kernel
theorem d_Mo_canGoOn_85 : decode prog_10_method_24_code 85 = .ok (.istore 7, 2) := by decide +kernel
theorem d_Mo_canGoOn_87 : decode prog_10_method_24_code 87 = .ok (.iload 7, 2) := by decide +kernel
theorem d_Mo_canGoOn_89 : decode prog_10_method_24_code 89 = .ok (.iload_n 1, 1) := by decide +kernel
theorem d_Mo_canGoOn_90 : decode prog_10_method_24_code 90 = .ok (.if_icmp .ge 48, 3) := by decide +kernel
theorem d_Mo_canGoOn_93 : decode prog_10_method_24_code 93 = .ok (.iload 6, 2) := by decide +kernel
theorem d_Mo_canGoOn_95 : decode prog_10_method_24_code 95 = .ok (.ifCond .eq 34, 3) := by decide +kernel
theorem d_Mo_canGoOn_98 : decode prog_10_method_24_code 98 = .ok (.aload_n 0, 1) := by decide +kernel
theorem d_Mo_canGoOn_99 : decode prog_10_method_24_code 99 = .ok (.getfield 16, 3) := by decide +kernel
theorem d_Mo_canGoOn_102 : decode prog_10_method_24_code 102 = .ok (.iload 5, 2) := by decide +kernel
theorem d_Mo_canGoOn_104 : decode prog_10_method_24_code 104 = .ok (.iaload, 1) := by decide +kernel
theorem d_Mo_canGoOn_105 : decode prog_10_method_24_code 105 = .ok (.iload 7, 2) := by decide +kernel
theorem d_Mo_canGoOn_107 : decode prog_10_method_24_code 107 = .ok (.ishr, 1) := by decide +kernel
theorem d_Mo_canGoOn_108 : decode prog_10_method_24_code 108 = .ok (.iconst 1, 1) := by decide +kernel
theorem d_Mo_canGoOn_109 : decode prog_10_method_24_code 109 = .ok (.iand, 1) := by decide +kernel
theorem d_Mo_canGoOn_110 : decode prog_10_method_24_code 110 = .ok (.iconst 1, 1) := by decide +kernel
theorem d_Mo_canGoOn_111 : decode prog_10_method_24_code 111 = .ok (.if_icmp .ne 14, 3) := by decide +kernel
theorem d_Mo_canGoOn_114 : decode prog_10_method_24_code 114 = .ok (.aload_n 0, 1) := by decide +kernel
theorem d_Mo_canGoOn_115 : decode prog_10_method_24_code 115 = .ok (.getfield 55, 3) := by decide +kernel
theorem d_Mo_canGoOn_118 : decode prog_10_method_24_code 118 = .ok (.iload 7, 2) := by decide +kernel
theorem d_Mo_canGoOn_120 : decode prog_10_method_24_code 120 = .ok (.iaload, 1) := by decide +kernel
theorem d_Mo_canGoOn_121 : decode prog_10_method_24_code 121 = .ok (.iload_n 3, 1) := by decide +kernel
theorem d_Mo_canGoOn_122 : decode prog_10_method_24_code 122 = .ok (.if_icmp .eq 7, 3) := by decide +kernel
theorem d_Mo_canGoOn_125 : decode prog_10_method_24_code 125 = .ok (.iconst 1, 1) := by decide +kernel
theorem d_Mo_canGoOn_126 : decode prog_10_method_24_code 126 = .ok (.goto 4, 3) := by decide +kernel
theorem d_Mo_canGoOn_129 : decode prog_10_method_24_code 129 = .ok (.iconst 0, 1) := by decide +kernel
theorem d_Mo_canGoOn_130 : decode prog_10_method_24_code 130 = .ok (.istore 6, 2) := by decide +kernel
theorem d_Mo_canGoOn_132 : decode prog_10_method_24_code 132 = .ok (.iinc 7 1, 3) := by decide +kernel
theorem d_Mo_canGoOn_135 : decode prog_10_method_24_code 135 = .ok (.goto (-48), 3) := by decide +kernel
theorem d_Mo_canGoOn_138 : decode prog_10_method_24_code 138 = .ok (.iload 4, 2) := by decide +kernel
theorem d_Mo_canGoOn_140 : decode prog_10_method_24_code 140 = .ok (.iload 6, 2) := by decide +kernel
theorem d_Mo_canGoOn_142 : decode prog_10_method_24_code 142 = .ok (.ifCond .eq 12, 3) := by decide +kernel
theorem d_Mo_canGoOn_145 : decode prog_10_method_24_code 145 = .ok (.iconst 1, 1) := by decide +kernel
theorem d_Mo_canGoOn_146 : decode prog_10_method_24_code 146 = .ok (.iload 5, 2) := by decide +kernel
theorem d_Mo_canGoOn_148 : decode prog_10_method_24_code 148 = .ok (.iload_n 1, 1) := by decide +kernel
theorem d_Mo_canGoOn_149 : decode prog_10_method_24_code 149 = .ok (.isub, 1) := by decide +kernel
theorem d_Mo_canGoOn_150 : decode prog_10_method_24_code 150 = .ok (.ishl, 1) := by decide +kernel
theorem d_Mo_canGoOn_151 : decode prog_10_method_24_code 151 = .ok (.goto 4, 3) := by decide +kernel
theorem d_Mo_canGoOn_154 : decode prog_10_method_24_code 154 = .ok (.iconst 0, 1) := by decide +kernel
theorem d_Mo_canGoOn_155 : decode prog_10_method_24_code 155 = .ok (.ior, 1) := by decide +kernel
theorem d_Mo_canGoOn_156 : decode prog_10_method_24_code 156 = .ok (.istore 4, 2) := by decide +kernel
theorem d_Mo_canGoOn_158 : decode prog_10_method_24_code 158 = .ok (.iinc 5 1, 3) := by decide +kernel
theorem d_Mo_canGoOn_161 : decode prog_10_method_24_code 161 = .ok (.goto (-108), 3) := by decide +kernel
theorem d_Mo_canGoOn_164 : decode prog_10_method_24_code 164 = .ok (.iconst 0, 1) := by decide +kernel
theorem d_Mo_canGoOn_165 : decode prog_10_method_24_code 165 = .ok (.istore 5, 2) := by decide +kernel
theorem d_Mo_canGoOn_167 : decode prog_10_method_24_code 167 = .ok (.iload 5, 2) := by decide +kernel
theorem d_Mo_canGoOn_169 : decode prog_10_method_24_code 169 = .ok (.iload_n 2, 1) := by decide +kernel
theorem d_Mo_canGoOn_170 : decode prog_10_method_24_code 170 = .ok (.if_icmp .gt 97, 3) := by decide +kernel
theorem d_Mo_canGoOn_173 : decode prog_10_method_24_code 173 = .ok (.aload_n 0, 1) := by decide +kernel
theorem d_Mo_canGoOn_174 : decode prog_10_method_24_code 174 = .ok (.getfield 64, 3) := by decide +kernel
theorem d_Mo_canGoOn_177 : decode prog_10_method_24_code 177 = .ok (.iload 5, 2) := by decide +kernel
theorem d_Mo_canGoOn_179 : decode prog_10_method_24_code 179 = .ok (.aload_n 0, 1) := by decide +kernel
theorem d_Mo_canGoOn_180 : decode prog_10_method_24_code 180 = .ok (.getfield 61, 3) := by decide +kernel
theorem d_Mo_canGoOn_183 : decode prog_10_method_24_code 183 = .ok (.iload 5, 2) := by decide +kernel
theorem d_Mo_canGoOn_185 : decode prog_10_method_24_code 185 = .ok (.baload, 1) := by decide +kernel
theorem d_Mo_canGoOn_186 : decode prog_10_method_24_code 186 = .ok (.bastore, 1) := by decide +kernel
theorem d_Mo_canGoOn_187 : decode prog_10_method_24_code 187 = .ok (.iload 5, 2) := by decide +kernel
theorem d_Mo_canGoOn_189 : decode prog_10_method_24_code 189 = .ok (.iload 4, 2) := by decide +kernel
theorem d_Mo_canGoOn_191 : decode prog_10_method_24_code 191 = .ok (.iand, 1) := by decide +kernel
theorem d_Mo_canGoOn_192 : decode prog_10_method_24_code 192 = .ok (.istore 6, 2) := by decide +kernel
theorem d_Mo_canGoOn_194 : decode prog_10_method_24_code 194 = .ok (.iload 6, 2) := by decide +kernel
theorem d_Mo_canGoOn_196 : decode prog_10_method_24_code 196 = .ok (.ifCond .le 65, 3) := by decide +kernel
theorem d_Mo_canGoOn_199 : decode prog_10_method_24_code 199 = .ok (.aload_n 0, 1) := by decide +kernel
theorem d_Mo_canGoOn_200 : decode prog_10_method_24_code 200 = .ok (.getfield 64, 3) := by decide +kernel
theorem d_Mo_canGoOn_203 : decode prog_10_method_24_code 203 = .ok (.iload 5, 2) := by decide +kernel
theorem d_Mo_canGoOn_205 : decode prog_10_method_24_code 205 = .ok (.baload, 1) := by decide +kernel
theorem d_Mo_canGoOn_206 : decode prog_10_method_24_code 206 = .ok (.ifCond .ne 55, 3) := by decide +kernel
theorem d_Mo_canGoOn_209 : decode prog_10_method_24_code 209 = .ok (.aload_n 0, 1) := by decide +kernel
theorem d_Mo_canGoOn_210 : decode prog_10_method_24_code 210 = .ok (.getfield 64, 3) := by decide +kernel
theorem d_Mo_canGoOn_213 : decode prog_10_method_24_code 213 = .ok (.iload 5, 2) := by decide +kernel
theorem d_Mo_canGoOn_215 : decode prog_10_method_24_code 215 = .ok (.aload_n 0, 1) := by decide +kernel
theorem d_Mo_canGoOn_216 : decode prog_10_method_24_code 216 = .ok (.getfield 37, 3) := by decide +kernel
theorem d_Mo_canGoOn_219 : decode prog_10_method_24_code 219 = .ok (.iload 6, 2) := by decide +kernel
theorem d_Mo_canGoOn_221 : decode prog_10_method_24_code 221 = .ok (.iload_n 1, 1) := by decide +kernel
theorem d_Mo_canGoOn_222 : decode prog_10_method_24_code 222 = .ok (.ishl, 1) := by decide +kernel
theorem d_Mo_canGoOn_223 : decode prog_10_method_24_code 223 = .ok (.baload, 1) := by decide +kernel
theorem d_Mo_canGoOn_224 : decode prog_10_method_24_code 224 = .ok (.ifCond .eq 20, 3) := by decide +kernel
theorem d_Mo_canGoOn_227 : decode prog_10_method_24_code 227 = .ok (.aload_n 0, 1) := by decide +kernel
theorem d_Mo_canGoOn_228 : decode prog_10_method_24_code 228 = .ok (.getfield 61, 3) := by decide +kernel
theorem d_Mo_canGoOn_231 : decode prog_10_method_24_code 231 = .ok (.iload 5, 2) := by decide +kernel
theorem d_Mo_canGoOn_233 : decode prog_10_method_24_code 233 = .ok (.iload 6, 2) := by decide +kernel
theorem d_Mo_canGoOn_235 : decode prog_10_method_24_code 235 = .ok (.ixor, 1) := by decide +kernel
theorem d_Mo_canGoOn_236 : decode prog_10_method_24_code 236 = .ok (.baload, 1) := by decide +kernel
theorem d_Mo_canGoOn_237 : decode prog_10_method_24_code 237 = .ok (.ifCond .eq 7, 3) := by decide +kernel
theorem d_Mo_canGoOn_240 : decode prog_10_method_24_code 240 = .ok (.iconst 1, 1) := by decide +kernel
theorem d_Mo_canGoOn_241 : decode prog_10_method_24_code 241 = .ok (.goto 4, 3) := by decide +kernel
theorem d_Mo_canGoOn_244 : decode prog_10_method_24_code 244 = .ok (.iconst 0, 1) := by decide +kernel
theorem d_Mo_canGoOn_245 : decode prog_10_method_24_code 245 = .ok (.bastore, 1) := by decide +kernel
theorem d_Mo_canGoOn_246 : decode prog_10_method_24_code 246 = .ok (.iload 6, 2) := by decide +kernel
theorem d_Mo_canGoOn_248 : decode prog_10_method_24_code 248 = .ok (.iconst 1, 1) := by decide +kernel
theorem d_Mo_canGoOn_249 : decode prog_10_method_24_code 249 = .ok (.isub, 1) := by decide +kernel
theorem d_Mo_canGoOn_250 : decode prog_10_method_24_code 250 = .ok (.iload 5, 2) := by decide +kernel
theorem d_Mo_canGoOn_252 : decode prog_10_method_24_code 252 = .ok (.iand, 1) := by decide +kernel
theorem d_Mo_canGoOn_253 : decode prog_10_method_24_code 253 = .ok (.iload 4, 2) := by decide +kernel
theorem d_Mo_canGoOn_255 : decode prog_10_method_24_code 255 = .ok (.iand, 1) := by decide +kernel
theorem d_Mo_canGoOn_256 : decode prog_10_method_24_code 256 = .ok (.istore 6, 2) := by decide +kernel
theorem d_Mo_canGoOn_258 : decode prog_10_method_24_code 258 = .ok (.goto (-64), 3) := by decide +kernel
theorem d_Mo_canGoOn_261 : decode prog_10_method_24_code 261 = .ok (.iinc 5 1, 3) := by decide +kernel
theorem d_Mo_canGoOn_264 : decode prog_10_method_24_code 264 = .ok (.goto (-97), 3) := by decide +kernel
theorem d_Mo_canGoOn_267 : decode prog_10_method_24_code 267 = .ok (.iconst 0, 1) := by decide +kernel
theorem d_Mo_canGoOn_268 : decode prog_10_method_24_code 268 = .ok (.istore 5, 2) := by decide +kernel
theorem d_Mo_canGoOn_270 : decode prog_10_method_24_code 270 = .ok (.iload 5, 2) := by decide +kernel
theorem d_Mo_canGoOn_272 : decode prog_10_method_24_code 272 = .ok (.iload_n 2, 1) := by decide +kernel
theorem d_Mo_canGoOn_273 : decode prog_10_method_24_code 273 = .ok (.if_icmp .gt 23, 3) := by decide +kernel
theorem d_Mo_canGoOn_276 : decode prog_10_method_24_code 276 = .ok (.aload_n 0, 1) := by decide +kernel
theorem d_Mo_canGoOn_277 : decode prog_10_method_24_code 277 = .ok (.getfield 61, 3) := by decide +kernel
theorem d_Mo_canGoOn_280 : decode prog_10_method_24_code 280 = .ok (.iload 5, 2) := by decide +kernel
theorem d_Mo_canGoOn_282 : decode prog_10_method_24_code 282 = .ok (.aload_n 0, 1) := by decide +kernel
theorem d_Mo_canGoOn_283 : decode prog_10_method_24_code 283 = .ok (.getfield 64, 3) := by decide +kernel
theorem d_Mo_canGoOn_286 : decode prog_10_method_24_code 286 = .ok (.iload 5, 2) := by decide +kernel
theorem d_Mo_canGoOn_288 : decode prog_10_method_24_code 288 = .ok (.baload, 1) := by decide +kernel
theorem d_Mo_canGoOn_289 : decode prog_10_method_24_code 289 = .ok (.bastore, 1) := by decide +kernel
theorem d_Mo_canGoOn_290 : decode prog_10_method_24_code 290 = .ok (.iinc 5 1, 3) := by decide +kernel
theorem d_Mo_canGoOn_293 : decode prog_10_method_24_code 293 = .ok (.goto (-23), 3) := by decide +kernel
theorem d_Mo_canGoOn_296 : decode prog_10_method_24_code 296 = .ok (.iinc 3 1, 3) := by decide +kernel
theorem d_Mo_canGoOn_299 : decode prog_10_method_24_code 299 = .ok (.goto (-258), 3) := by decide +kernel
theorem d_Mo_canGoOn_302 : decode prog_10_method_24_code 302 = .ok (.aload_n 0, 1) := by decide +kernel
theorem d_Mo_canGoOn_303 : decode prog_10_method_24_code 303 = .ok (.getfield 61, 3) := by decide +kernel
theorem d_Mo_canGoOn_306 : decode prog_10_method_24_code 306 = .ok (.iload_n 2, 1) := by decide +kernel
theorem d_Mo_canGoOn_307 : decode prog_10_method_24_code 307 = .ok (.baload, 1) := by decide +kernel
theorem d_Mo_canGoOn_308 : decode prog_10_method_24_code 308 = .ok (.ireturn, 1) := by decide +kernel
abbrev wd_Mo_canGoOn (cI cJ cG cZ : ClassId) (a0 a0_from a0_to a0_near a0_lists a0_colours a0_shades a0_tints a0_attempt a0_taken a0_isApart a0_ways a0_next a0_splits a0_powers a0_row a0_many a0_can a0_could a0_arcRow a0_order a0_isOut : Nat) (v0_thrown : Int32) (v0_nodes : Int32) (v0_arcs : Int32) (v0_takenMany : Int32) (v0_leftBits : Int32) (v0_hasPolynomial : Int32) (v0_hasLists : Int32) (w0_near : Nat → Int32) (w0_lists : Nat → Int32) (w0_isApart : Nat → Int32) (w0_row : Nat → Int32) (w0_can : Nat → Int32) (w0_could : Nat → Int32) : va_W := [(a0, .inr (8, [.int v0_thrown, .int v0_nodes, .int v0_arcs, .ref a0_from, .ref a0_to, .ref a0_near, .ref a0_lists, .ref a0_colours, .ref a0_shades, .ref a0_tints, .ref a0_attempt, .int v0_takenMany, .ref a0_taken, .int v0_leftBits, .ref a0_isApart, .ref a0_ways, .ref a0_next, .ref a0_splits, .ref a0_powers, .ref a0_row, .ref a0_many, .int v0_hasPolynomial, .int v0_hasLists, .ref a0_can, .ref a0_could, .ref a0_arcRow, .ref a0_order, .ref a0_isOut])), (a0_near, .inl (cI, 12, .inl w0_near)), (a0_lists, .inl (cI, 12, .inl w0_lists)), (a0_isApart, .inl (cZ, 4096, .inl w0_isApart)), (a0_row, .inl (cI, 12, .inl w0_row)), (a0_can, .inl (cZ, 4096, .inl w0_can)), (a0_could, .inl (cZ, 4096, .inl w0_could))]
abbrev us_Mo_canGoOn : List Cond := .code y_Mo_canGoOn prog_10_method_24_code 8 (some .boolean) :: gtbl
abbrev rm_Mo_canGoOn : Room := { frames := 0, cells := 0, slots := 0, locals := 0 }
def m_Mo_canGoOn (F : Nat) (v0_thrown : Int32) (v0_nodes : Int32) (v0_arcs : Int32) (v0_takenMany : Int32) (v0_leftBits : Int32) (v0_hasPolynomial : Int32) (v0_hasLists : Int32) (w0_near : Nat → Int32) (w0_lists : Nat → Int32) (w0_isApart : Nat → Int32) (w0_row : Nat → Int32) (w0_can : Nat → Int32) (w0_could : Nat → Int32) (p1 : Int32) : Option (Int32 × (Nat → Int32) × (Nat → Int32)) :=
  gB (((1 : Int32) <<< ((v0_nodes - p1) &&& 31)) - 1) (fun x2_1 =>
  gL (fun (k_13 : (Int32 × (Nat → Int32)) → Option (Int32 × (Nat → Int32) × (Nat → Int32))) (z_13 : Int32 × (Nat → Int32)) => match z_13 with
  | (x3_2, w0_can_3) =>
  if x2_1 < x3_2 then (
    gL (fun (k_41 : (Int32 × (Nat → Int32) × (Nat → Int32)) → Option (Int32 × (Nat → Int32) × (Nat → Int32))) (z_41 : Int32 × (Nat → Int32) × (Nat → Int32)) => match z_41 with
    | (x3_5, w0_can_6, w0_could_7) =>
    if (12 : Int32) ≤ x3_5 then (
      gC (inb x2_1 4096) (
      gC (bzB (w0_can_6 x2_1.toNatClampNeg)) (some (w0_can_6 x2_1.toNatClampNeg, w0_can_6, w0_could_7)))
    ) else (
      gL (fun (k_53 : (Int32 × Int32) → Option (Int32 × (Nat → Int32) × (Nat → Int32))) (z_53 : Int32 × Int32) => match z_53 with
      | (x4_11, x5_12) =>
      if v0_nodes ≤ x5_12 then (
        gL (fun (k_167 : (Int32 × (Nat → Int32)) → Option (Int32 × (Nat → Int32) × (Nat → Int32))) (z_167 : Int32 × (Nat → Int32)) => match z_167 with
        | (x5_14, w0_could_15) =>
        if x2_1 < x5_14 then (
          gL (fun (k_270 : (Int32 × (Nat → Int32)) → Option (Int32 × (Nat → Int32) × (Nat → Int32))) (z_270 : Int32 × (Nat → Int32)) => match z_270 with
          | (x5_17, w0_can_18) =>
          if x2_1 < x5_17 then (
            gB (x3_5 + 1) (fun x3_20 =>
            k_41 (x3_20, w0_can_18, w0_could_15))
          ) else (
            gC (inb x5_17 4096) (
            gC (inb x5_17 4096) (
            gB (x5_17 + 1) (fun x5_23 =>
            k_270 (x5_23, upd w0_can_18 x5_17.toNatClampNeg (vp_nar .boolean (w0_could_15 x5_17.toNatClampNeg))))))
          )
          ) F (0, w0_can_6)
        ) else (
          gC (inb x5_14 4096) (
          gC (inb x5_14 4096) (
          gB (x5_14 &&& x4_11) (fun x6_26 =>
          gL (fun (k_194 : (Int32 × (Nat → Int32)) → Option (Int32 × (Nat → Int32) × (Nat → Int32))) (z_194 : Int32 × (Nat → Int32)) => match z_194 with
          | (x6_27, w0_could_28) =>
          if x6_27 ≤ 0 then (
            gB (x5_14 + 1) (fun x5_30 =>
            k_167 (x5_30, w0_could_28))
          ) else (
            gC (inb x5_14 4096) (
            if (w0_could_28 x5_14.toNatClampNeg) = 0 then (
              gC (inb (x6_27 <<< (p1 &&& 31)) 4096) (
              gB (α := Int32 → Option (Int32 × (Nat → Int32) × (Nat → Int32))) (fun s_35 =>
                gC (inb x5_14 4096) (
                gB (((x6_27 - 1) &&& x5_14) &&& x4_11) (fun x6_37 =>
                k_194 (x6_37, upd w0_could_28 x5_14.toNatClampNeg (vp_nar .boolean s_35))))
              ) (fun J_245 =>
              gB (α := Option (Int32 × (Nat → Int32) × (Nat → Int32))) (
                J_245 0
              ) (fun J_244 =>
              if (w0_isApart (x6_27 <<< (p1 &&& 31)).toNatClampNeg) = 0 then (
                J_244
              ) else (
                gC (inb (x5_14 ^^^ x6_27) 4096) (
                if (w0_can_6 (x5_14 ^^^ x6_27).toNatClampNeg) = 0 then (
                  J_244
                ) else (
                  J_245 1
                ))
              )
              )
              ))
            ) else (
              gB (x5_14 + 1) (fun x5_33 =>
              k_167 (x5_33, w0_could_28))
            ))
          )
          ) F (x6_26, upd w0_could_15 x5_14.toNatClampNeg (vp_nar .boolean (w0_can_6 x5_14.toNatClampNeg))))))
        )
        ) F (0, w0_could_7)
      ) else (
        gC (inb x5_12 12) (
        gB (α := Int32 → Option (Int32 × (Nat → Int32) × (Nat → Int32))) (fun s_42 =>
          gL (fun (k_87 : (Int32 × Int32) → Option (Int32 × (Nat → Int32) × (Nat → Int32))) (z_87 : Int32 × Int32) => match z_87 with
          | (x6_43, x7_44) =>
          if p1 ≤ x7_44 then (
            if x6_43 = 0 then (
              gB (x4_11 ||| 0) (fun x4_47 =>
              gB (x5_12 + 1) (fun x5_48 =>
              k_53 (x4_47, x5_48)))
            ) else (
              gB (x4_11 ||| ((1 : Int32) <<< ((x5_12 - p1) &&& 31))) (fun x4_49 =>
              gB (x5_12 + 1) (fun x5_50 =>
              k_53 (x4_49, x5_50)))
            )
          ) else (
            if x6_43 = 0 then (
              gB (x7_44 + 1) (fun x7_52 =>
              k_87 (0, x7_52))
            ) else (
              gC (inb x5_12 12) (
              gB (α := Option (Int32 × (Nat → Int32) × (Nat → Int32))) (
                gB (x7_44 + 1) (fun x7_54 =>
                k_87 (1, x7_54))
              ) (fun J_125 =>
              if (((w0_near x5_12.toNatClampNeg) >>> (x7_44 &&& 31)) &&& 1) = (1 : Int32) then (
                gC (inb x7_44 12) (
                if (w0_row x7_44.toNatClampNeg) = x3_5 then (
                  gB (x7_44 + 1) (fun x7_58 =>
                  k_87 (0, x7_58))
                ) else (
                  J_125
                ))
              ) else (
                J_125
              )
              ))
            )
          )
          ) F (s_42, 0)
        ) (fun J_82 =>
        if (((w0_lists x5_12.toNatClampNeg) >>> (x3_5 &&& 31)) &&& 1) = (1 : Int32) then (
          J_82 1
        ) else (
          J_82 0
        )
        ))
      )
      ) F (0, p1)
    )
    ) F (0, w0_can_3, w0_could)
  ) else (
    gB (α := Int32 → Option (Int32 × (Nat → Int32) × (Nat → Int32))) (fun s_60 =>
      gC (inb x3_2 4096) (
      gB (x3_2 + 1) (fun x3_62 =>
      k_13 (x3_62, upd w0_can_3 x3_2.toNatClampNeg (vp_nar .boolean s_60))))
    ) (fun J_32 =>
    if x3_2 = 0 then (
      J_32 1
    ) else (
      J_32 0
    )
    )
  )
  ) F (0, w0_can))
set_option maxHeartbeats 4000000 in
set_option maxRecDepth 100000 in
theorem c_Mo_canGoOn (l : Launch) (dC : Nat → ClassId) (dI : Nat → Nat → Nat) (cI cJ cG cZ : ClassId) (a0 a0_from a0_to a0_near a0_lists a0_colours a0_shades a0_tints a0_attempt a0_taken a0_isApart a0_ways a0_next a0_splits a0_powers a0_row a0_many a0_can a0_could a0_arcRow a0_order a0_isOut : Nat) (sz : Nat) (F : Nat) (v0_thrown : Int32) (v0_nodes : Int32) (v0_arcs : Int32) (v0_takenMany : Int32) (v0_leftBits : Int32) (v0_hasPolynomial : Int32) (v0_hasLists : Int32) (w0_near : Nat → Int32) (w0_lists : Nat → Int32) (w0_isApart : Nat → Int32) (w0_row : Nat → Int32) (w0_can : Nat → Int32) (w0_could : Nat → Int32) (p1 : Int32) (ret : Int32) (o_w0_can : Nat → Int32) (o_w0_could : Nat → Int32) (hm : m_Mo_canGoOn F v0_thrown v0_nodes v0_arcs v0_takenMany v0_leftBits v0_hasPolynomial v0_hasLists w0_near w0_lists w0_isApart w0_row w0_can w0_could p1 = some (ret, o_w0_can, o_w0_could)) : Met l y_Mo_canGoOn us_Mo_canGoOn rm_Mo_canGoOn (PcS (dC, dI) (tyL cI cJ cG cZ) [.ref a0, .int p1] sz (wd_Mo_canGoOn cI cJ cG cZ a0 a0_from a0_to a0_near a0_lists a0_colours a0_shades a0_tints a0_attempt a0_taken a0_isApart a0_ways a0_next a0_splits a0_powers a0_row a0_many a0_can a0_could a0_arcRow a0_order a0_isOut v0_thrown v0_nodes v0_arcs v0_takenMany v0_leftBits v0_hasPolynomial v0_hasLists w0_near w0_lists w0_isApart w0_row w0_can w0_could)) (va_Qi (fun (r : Int32) (_ : Unit) => ret = r ∧ bz r) (fun _ t => PoS (dC, dI) (tyL cI cJ cG cZ) (wd_Mo_canGoOn cI cJ cG cZ a0 a0_from a0_to a0_near a0_lists a0_colours a0_shades a0_tints a0_attempt a0_taken a0_isApart a0_ways a0_next a0_splits a0_powers a0_row a0_many a0_can a0_could a0_arcRow a0_order a0_isOut v0_thrown v0_nodes v0_arcs v0_takenMany v0_leftBits v0_hasPolynomial v0_hasLists w0_near w0_lists w0_isApart w0_row o_w0_can o_w0_could) (va_A (wd_Mo_canGoOn cI cJ cG cZ a0 a0_from a0_to a0_near a0_lists a0_colours a0_shades a0_tints a0_attempt a0_taken a0_isApart a0_ways a0_next a0_splits a0_powers a0_row a0_many a0_can a0_could a0_arcRow a0_order a0_isOut v0_thrown v0_nodes v0_arcs v0_takenMany v0_leftBits v0_hasPolynomial v0_hasLists w0_near w0_lists w0_isApart w0_row w0_can w0_could) sz) t) (va_A (wd_Mo_canGoOn cI cJ cG cZ a0 a0_from a0_to a0_near a0_lists a0_colours a0_shades a0_tints a0_attempt a0_taken a0_isApart a0_ways a0_next a0_splits a0_powers a0_row a0_many a0_can a0_could a0_arcRow a0_order a0_isOut v0_thrown v0_nodes v0_arcs v0_takenMany v0_leftBits v0_hasPolynomial v0_hasLists w0_near w0_lists w0_isApart w0_row w0_can w0_could) sz)) 0 0 (va_A (wd_Mo_canGoOn cI cJ cG cZ a0 a0_from a0_to a0_near a0_lists a0_colours a0_shades a0_tints a0_attempt a0_taken a0_isApart a0_ways a0_next a0_splits a0_powers a0_row a0_many a0_can a0_could a0_arcRow a0_order a0_isOut v0_thrown v0_nodes v0_arcs v0_takenMany v0_leftBits v0_hasPolynomial v0_hasLists w0_near w0_lists w0_isApart w0_row w0_can w0_could) sz) := by
  refine Met.ofW (cc := prog_10_method_24_code) (maxL := 8) (ret := (some .boolean)) (by decide) rfl ?_
  intro p e s m args below meth c s₁ B hml hv
  obtain ⟨rfl, hsz, hP, hK, hD0, hNw⟩ := hv
  have hx := B.exec
  have hb := B.bytes
  have hr := B.returns
  have htt : ∀ w ∈ gtbl, w.before _ s = true := fun w h => atoms_spec (ws := us_Mo_canGoOn) B.pre w (List.mem_cons_of_mem _ h)
  have hown : s.vm.findClass R_Mo = some m.cls := findClass_of_methodNamed B.named
  have hlocks := B.notSynchronized
  subst hsz
  have hD := hD0.self (sz := s.heap.size)
  generalize hAe : va_A (wd_Mo_canGoOn cI cJ cG cZ a0 a0_from a0_to a0_near a0_lists a0_colours a0_shades a0_tints a0_attempt a0_taken a0_isApart a0_ways a0_next a0_splits a0_powers a0_row a0_many a0_can a0_could a0_arcRow a0_order a0_isOut v0_thrown v0_nodes v0_arcs v0_takenMany v0_leftBits v0_hasPolynomial v0_hasLists w0_near w0_lists w0_isApart w0_row w0_can w0_could) s.heap.size = A at hD ⊢
  have hA : ∀ q : Nat, s.heap.size ≤ q → A q := fun q h => by rw [← hAe]; exact Or.inr h
  clear hAe hD0
  have hS : va_S A s.heap s.heap [] := va_S.rf
  have hl := lv_entry ([.ref a0, .int p1]) (n := 8) (Nat.le_of_ble_eq_true rfl)
  rw [lg_entry_eq]
  generalize (lg_sl ([.ref a0, .int p1]) ++ List.replicate (8 - (lg_sl ([.ref a0, .int p1])).length) Slot.unset).toArray = ls at hl ⊢
  have hl : lv_has ls 8 [(0, .ref a0), (1, .int p1)] := hl
  generalize hH : s.heap = H at hP ⊢
  have hS : va_S A s.heap H [] := hH ▸ hS
  generalize hLo : ([] : List Loc) = locs at hS ⊢
  clear hH hLo
  unfold m_Mo_canGoOn at hm
  refine lv_iconst (v := 1) hx hb d_Mo_canGoOn_0 (by decide) ?_
  refine lv_aload_n hx hb d_Mo_canGoOn_1 rfl (lv_at hl 0 rfl) ?_
  refine va_get (D := (dC, dI)) (ci := 8) (v := .int v0_nodes) (C := R_Mo) (T := T_Mo) (N := 28) hx hb htt hin_Mo hown hK hP 0 rfl rfl 1 (by decide) (htt _ kt_770) (fun _ h9 => h9) rfl d_Mo_canGoOn_2 ?_
  refine lv_iload_n hx hb d_Mo_canGoOn_5 rfl (lv_at hl 1 rfl) ?_
  refine lv_isub hx hb d_Mo_canGoOn_6 ?_
  refine lv_ishl hx hb d_Mo_canGoOn_7 ?_
  refine lv_iconst (v := 1) hx hb d_Mo_canGoOn_8 (by decide) ?_
  refine lv_isub hx hb d_Mo_canGoOn_9 ?_
  refine lv_topi (fun x2_1 ex2_1 => ?_)
  have hm := gB_at ex2_1 hm
  refine lv_istore_n (lv' := [(2, .int x2_1), (0, .ref a0), (1, .int p1)]) hx hb d_Mo_canGoOn_10 rfl hl (by decide) rfl (fun ls hl => ?_)
  refine lv_iconst (v := 0) hx hb d_Mo_canGoOn_11 (by decide) ?_
  refine lv_istore_n (lv' := [(3, .int 0), (2, .int x2_1), (0, .ref a0), (1, .int p1)]) hx hb d_Mo_canGoOn_12 rfl hl (by decide) rfl (fun ls hl => ?_)
  refine gL_e (P := (fun (z_13 : Int32 × (Nat → Int32)) => ∀ (x3_2 : Int32), ∀ (w0_can_3 : Nat → Int32), z_13 = (x3_2, w0_can_3) → ∀ (ls : Array Slot) (H : Heap) (locs : List Loc), lv_has ls 8 [(0, .ref a0), (1, .int p1), (2, .int x2_1), (3, .int x3_2)] → va_P (dC, dI) vwCl (wd_Mo_canGoOn cI cJ cG cZ a0 a0_from a0_to a0_near a0_lists a0_colours a0_shades a0_tints a0_attempt a0_taken a0_isApart a0_ways a0_next a0_splits a0_powers a0_row a0_many a0_can a0_could a0_arcRow a0_order a0_isOut v0_thrown v0_nodes v0_arcs v0_takenMany v0_leftBits v0_hasPolynomial v0_hasLists w0_near w0_lists w0_isApart w0_row w0_can_3 w0_could) H → va_D A (wd_Mo_canGoOn cI cJ cG cZ a0 a0_from a0_to a0_near a0_lists a0_colours a0_shades a0_tints a0_attempt a0_taken a0_isApart a0_ways a0_next a0_splits a0_powers a0_row a0_many a0_can a0_could a0_arcRow a0_order a0_isOut v0_thrown v0_nodes v0_arcs v0_takenMany v0_leftBits v0_hasPolynomial v0_hasLists w0_near w0_lists w0_isApart w0_row w0_can_3 w0_could) → va_S A s.heap H locs → W p l e (headSpec us_Mo_canGoOn rm_Mo_canGoOn).room s m ([.ref a0, .int p1] : List Value).toArray below meth c H locs 0 0 (MQ below (va_Qi (fun (r : Int32) (_ : Unit) => ret = r ∧ bz r) (fun _ t => PoS (dC, dI) (tyL cI cJ cG cZ) (wd_Mo_canGoOn cI cJ cG cZ a0 a0_from a0_to a0_near a0_lists a0_colours a0_shades a0_tints a0_attempt a0_taken a0_isApart a0_ways a0_next a0_splits a0_powers a0_row a0_many a0_can a0_could a0_arcRow a0_order a0_isOut v0_thrown v0_nodes v0_arcs v0_takenMany v0_leftBits v0_hasPolynomial v0_hasLists w0_near w0_lists w0_isApart w0_row o_w0_can o_w0_could) A t) A) ([.ref a0, .int p1] : List Value).toArray s 0 0 A) (F0 m 13 ls []))) hm (fun k_13 z_13 ih_13 hm => ?_) _ _ rfl ls H locs (lv_sub hl [2, 3, 1, 0] rfl) hP hD hS
  intro x3_2 w0_can_3 hz ls H locs hl hP hD hS
  subst hz
  dsimp only at hm
  refine lv_iload_n hx hb d_Mo_canGoOn_13 rfl (lv_at hl 3 rfl) ?_
  refine lv_iload_n hx hb d_Mo_canGoOn_14 rfl (lv_at hl 2 rfl) ?_
  refine lv_icmp_gt (tgt := 39) hx hb d_Mo_canGoOn_15 (by decide) (fun c_4 => ?_) (fun c_4 => ?_)
  · have hm := ite_t c_4 hm
    refine lv_iconst (v := 0) hx hb d_Mo_canGoOn_39 (by decide) ?_
    refine lv_istore_n (lv' := [(3, .int 0), (0, .ref a0), (1, .int p1), (2, .int x2_1)]) hx hb d_Mo_canGoOn_40 rfl hl (by decide) rfl (fun ls hl => ?_)
    refine gL_e (P := (fun (z_41 : Int32 × (Nat → Int32) × (Nat → Int32)) => ∀ (x3_5 : Int32), ∀ (w0_can_6 : Nat → Int32), ∀ (w0_could_7 : Nat → Int32), z_41 = (x3_5, w0_can_6, w0_could_7) → ∀ (ls : Array Slot) (H : Heap) (locs : List Loc), lv_has ls 8 [(0, .ref a0), (1, .int p1), (2, .int x2_1), (3, .int x3_5)] → va_P (dC, dI) vwCl (wd_Mo_canGoOn cI cJ cG cZ a0 a0_from a0_to a0_near a0_lists a0_colours a0_shades a0_tints a0_attempt a0_taken a0_isApart a0_ways a0_next a0_splits a0_powers a0_row a0_many a0_can a0_could a0_arcRow a0_order a0_isOut v0_thrown v0_nodes v0_arcs v0_takenMany v0_leftBits v0_hasPolynomial v0_hasLists w0_near w0_lists w0_isApart w0_row w0_can_6 w0_could_7) H → va_D A (wd_Mo_canGoOn cI cJ cG cZ a0 a0_from a0_to a0_near a0_lists a0_colours a0_shades a0_tints a0_attempt a0_taken a0_isApart a0_ways a0_next a0_splits a0_powers a0_row a0_many a0_can a0_could a0_arcRow a0_order a0_isOut v0_thrown v0_nodes v0_arcs v0_takenMany v0_leftBits v0_hasPolynomial v0_hasLists w0_near w0_lists w0_isApart w0_row w0_can_6 w0_could_7) → va_S A s.heap H locs → W p l e (headSpec us_Mo_canGoOn rm_Mo_canGoOn).room s m ([.ref a0, .int p1] : List Value).toArray below meth c H locs 0 0 (MQ below (va_Qi (fun (r : Int32) (_ : Unit) => ret = r ∧ bz r) (fun _ t => PoS (dC, dI) (tyL cI cJ cG cZ) (wd_Mo_canGoOn cI cJ cG cZ a0 a0_from a0_to a0_near a0_lists a0_colours a0_shades a0_tints a0_attempt a0_taken a0_isApart a0_ways a0_next a0_splits a0_powers a0_row a0_many a0_can a0_could a0_arcRow a0_order a0_isOut v0_thrown v0_nodes v0_arcs v0_takenMany v0_leftBits v0_hasPolynomial v0_hasLists w0_near w0_lists w0_isApart w0_row o_w0_can o_w0_could) A t) A) ([.ref a0, .int p1] : List Value).toArray s 0 0 A) (F0 m 41 ls []))) hm (fun k_41 z_41 ih_41 hm => ?_) _ _ _ rfl ls H locs (lv_sub hl [1, 2, 3, 0] rfl) hP hD hS
    intro x3_5 w0_can_6 w0_could_7 hz ls H locs hl hP hD hS
    subst hz
    dsimp only at hm
    refine lv_iload_n hx hb d_Mo_canGoOn_41 rfl (lv_at hl 3 rfl) ?_
    refine lv_bipush (v := 12) hx hb d_Mo_canGoOn_42 (by decide) ?_
    refine lv_icmp_ge (tgt := 302) hx hb d_Mo_canGoOn_44 (by decide) (fun c_8 => ?_) (fun c_8 => ?_)
    · have hm := ite_t c_8 hm
      refine lv_aload_n hx hb d_Mo_canGoOn_302 rfl (lv_at hl 0 rfl) ?_
      refine va_get (D := (dC, dI)) (ci := 8) (v := .ref a0_can) (C := R_Mo) (T := T_Mo) (N := 28) hx hb htt hin_Mo hown hK hP 0 rfl rfl 23 (by decide) (htt _ kt_792) (fun _ h9 => h9) rfl d_Mo_canGoOn_303 ?_
      refine lv_iload_n hx hb d_Mo_canGoOn_306 rfl (lv_at hl 2 rfl) ?_
      obtain ⟨hi_9, hm⟩ := gC_e hm
      refine va_zald hx hb hK hP 5 3 rfl rfl (inb_vp hi_9) d_Mo_canGoOn_307 ?_
      obtain ⟨hz_10, hm⟩ := gC_e hm
      cases hm
      exact W.zret (ty := .boolean) hx hb hr (bz_nar (bzB_e hz_10)) (fun t ht hW => ⟨⟨_, (), rfl, ⟨rfl, (bzB_e hz_10)⟩, by rw [ht]; exact hP, va_K.moved hW.alike hK, hD⟩, hS.F ht⟩) hS.2.2 d_Mo_canGoOn_308
    · have hm := ite_f c_8 hm
      refine lv_iconst (v := 0) hx hb d_Mo_canGoOn_47 (by decide) ?_
      refine lv_istore (lv' := [(4, .int 0), (0, .ref a0), (1, .int p1), (2, .int x2_1), (3, .int x3_5)]) hx hb d_Mo_canGoOn_48 hl (by decide) rfl (fun ls hl => ?_)
      refine lv_iload_n hx hb d_Mo_canGoOn_50 rfl (lv_at hl 2 rfl) ?_
      refine lv_istore (lv' := [(5, .int p1), (4, .int 0), (0, .ref a0), (1, .int p1), (2, .int x2_1), (3, .int x3_5)]) hx hb d_Mo_canGoOn_51 hl (by decide) rfl (fun ls hl => ?_)
      refine gL_e (P := (fun (z_53 : Int32 × Int32) => ∀ (x4_11 : Int32), ∀ (x5_12 : Int32), z_53 = (x4_11, x5_12) → ∀ (ls : Array Slot) (H : Heap) (locs : List Loc), lv_has ls 8 [(0, .ref a0), (1, .int p1), (2, .int x2_1), (3, .int x3_5), (4, .int x4_11), (5, .int x5_12)] → va_P (dC, dI) vwCl (wd_Mo_canGoOn cI cJ cG cZ a0 a0_from a0_to a0_near a0_lists a0_colours a0_shades a0_tints a0_attempt a0_taken a0_isApart a0_ways a0_next a0_splits a0_powers a0_row a0_many a0_can a0_could a0_arcRow a0_order a0_isOut v0_thrown v0_nodes v0_arcs v0_takenMany v0_leftBits v0_hasPolynomial v0_hasLists w0_near w0_lists w0_isApart w0_row w0_can_6 w0_could_7) H → va_D A (wd_Mo_canGoOn cI cJ cG cZ a0 a0_from a0_to a0_near a0_lists a0_colours a0_shades a0_tints a0_attempt a0_taken a0_isApart a0_ways a0_next a0_splits a0_powers a0_row a0_many a0_can a0_could a0_arcRow a0_order a0_isOut v0_thrown v0_nodes v0_arcs v0_takenMany v0_leftBits v0_hasPolynomial v0_hasLists w0_near w0_lists w0_isApart w0_row w0_can_6 w0_could_7) → va_S A s.heap H locs → W p l e (headSpec us_Mo_canGoOn rm_Mo_canGoOn).room s m ([.ref a0, .int p1] : List Value).toArray below meth c H locs 0 0 (MQ below (va_Qi (fun (r : Int32) (_ : Unit) => ret = r ∧ bz r) (fun _ t => PoS (dC, dI) (tyL cI cJ cG cZ) (wd_Mo_canGoOn cI cJ cG cZ a0 a0_from a0_to a0_near a0_lists a0_colours a0_shades a0_tints a0_attempt a0_taken a0_isApart a0_ways a0_next a0_splits a0_powers a0_row a0_many a0_can a0_could a0_arcRow a0_order a0_isOut v0_thrown v0_nodes v0_arcs v0_takenMany v0_leftBits v0_hasPolynomial v0_hasLists w0_near w0_lists w0_isApart w0_row o_w0_can o_w0_could) A t) A) ([.ref a0, .int p1] : List Value).toArray s 0 0 A) (F0 m 53 ls []))) hm (fun k_53 z_53 ih_53 hm => ?_) _ _ rfl ls H locs (lv_sub hl [2, 3, 4, 5, 1, 0] rfl) hP hD hS
      intro x4_11 x5_12 hz ls H locs hl hP hD hS
      subst hz
      dsimp only at hm
      refine lv_iload hx hb d_Mo_canGoOn_53 (lv_at hl 5 rfl) ?_
      refine lv_aload_n hx hb d_Mo_canGoOn_55 rfl (lv_at hl 0 rfl) ?_
      refine va_get (D := (dC, dI)) (ci := 8) (v := .int v0_nodes) (C := R_Mo) (T := T_Mo) (N := 28) hx hb htt hin_Mo hown hK hP 0 rfl rfl 1 (by decide) (htt _ kt_770) (fun _ h9 => h9) rfl d_Mo_canGoOn_56 ?_
      refine lv_icmp_ge (tgt := 164) hx hb d_Mo_canGoOn_59 (by decide) (fun c_13 => ?_) (fun c_13 => ?_)
      · have hm := ite_t c_13 hm
        refine lv_iconst (v := 0) hx hb d_Mo_canGoOn_164 (by decide) ?_
        refine lv_istore (lv' := [(5, .int 0), (0, .ref a0), (1, .int p1), (2, .int x2_1), (3, .int x3_5), (4, .int x4_11)]) hx hb d_Mo_canGoOn_165 hl (by decide) rfl (fun ls hl => ?_)
        refine gL_e (P := (fun (z_167 : Int32 × (Nat → Int32)) => ∀ (x5_14 : Int32), ∀ (w0_could_15 : Nat → Int32), z_167 = (x5_14, w0_could_15) → ∀ (ls : Array Slot) (H : Heap) (locs : List Loc), lv_has ls 8 [(0, .ref a0), (1, .int p1), (2, .int x2_1), (3, .int x3_5), (4, .int x4_11), (5, .int x5_14)] → va_P (dC, dI) vwCl (wd_Mo_canGoOn cI cJ cG cZ a0 a0_from a0_to a0_near a0_lists a0_colours a0_shades a0_tints a0_attempt a0_taken a0_isApart a0_ways a0_next a0_splits a0_powers a0_row a0_many a0_can a0_could a0_arcRow a0_order a0_isOut v0_thrown v0_nodes v0_arcs v0_takenMany v0_leftBits v0_hasPolynomial v0_hasLists w0_near w0_lists w0_isApart w0_row w0_can_6 w0_could_15) H → va_D A (wd_Mo_canGoOn cI cJ cG cZ a0 a0_from a0_to a0_near a0_lists a0_colours a0_shades a0_tints a0_attempt a0_taken a0_isApart a0_ways a0_next a0_splits a0_powers a0_row a0_many a0_can a0_could a0_arcRow a0_order a0_isOut v0_thrown v0_nodes v0_arcs v0_takenMany v0_leftBits v0_hasPolynomial v0_hasLists w0_near w0_lists w0_isApart w0_row w0_can_6 w0_could_15) → va_S A s.heap H locs → W p l e (headSpec us_Mo_canGoOn rm_Mo_canGoOn).room s m ([.ref a0, .int p1] : List Value).toArray below meth c H locs 0 0 (MQ below (va_Qi (fun (r : Int32) (_ : Unit) => ret = r ∧ bz r) (fun _ t => PoS (dC, dI) (tyL cI cJ cG cZ) (wd_Mo_canGoOn cI cJ cG cZ a0 a0_from a0_to a0_near a0_lists a0_colours a0_shades a0_tints a0_attempt a0_taken a0_isApart a0_ways a0_next a0_splits a0_powers a0_row a0_many a0_can a0_could a0_arcRow a0_order a0_isOut v0_thrown v0_nodes v0_arcs v0_takenMany v0_leftBits v0_hasPolynomial v0_hasLists w0_near w0_lists w0_isApart w0_row o_w0_can o_w0_could) A t) A) ([.ref a0, .int p1] : List Value).toArray s 0 0 A) (F0 m 167 ls []))) hm (fun k_167 z_167 ih_167 hm => ?_) _ _ rfl ls H locs (lv_sub hl [1, 2, 3, 4, 5, 0] rfl) hP hD hS
        intro x5_14 w0_could_15 hz ls H locs hl hP hD hS
        subst hz
        dsimp only at hm
        refine lv_iload hx hb d_Mo_canGoOn_167 (lv_at hl 5 rfl) ?_
        refine lv_iload_n hx hb d_Mo_canGoOn_169 rfl (lv_at hl 2 rfl) ?_
        refine lv_icmp_gt (tgt := 267) hx hb d_Mo_canGoOn_170 (by decide) (fun c_16 => ?_) (fun c_16 => ?_)
        · have hm := ite_t c_16 hm
          refine lv_iconst (v := 0) hx hb d_Mo_canGoOn_267 (by decide) ?_
          refine lv_istore (lv' := [(5, .int 0), (0, .ref a0), (1, .int p1), (2, .int x2_1), (3, .int x3_5), (4, .int x4_11)]) hx hb d_Mo_canGoOn_268 hl (by decide) rfl (fun ls hl => ?_)
          refine gL_e (P := (fun (z_270 : Int32 × (Nat → Int32)) => ∀ (x5_17 : Int32), ∀ (w0_can_18 : Nat → Int32), z_270 = (x5_17, w0_can_18) → ∀ (ls : Array Slot) (H : Heap) (locs : List Loc), lv_has ls 8 [(0, .ref a0), (1, .int p1), (2, .int x2_1), (3, .int x3_5), (5, .int x5_17)] → va_P (dC, dI) vwCl (wd_Mo_canGoOn cI cJ cG cZ a0 a0_from a0_to a0_near a0_lists a0_colours a0_shades a0_tints a0_attempt a0_taken a0_isApart a0_ways a0_next a0_splits a0_powers a0_row a0_many a0_can a0_could a0_arcRow a0_order a0_isOut v0_thrown v0_nodes v0_arcs v0_takenMany v0_leftBits v0_hasPolynomial v0_hasLists w0_near w0_lists w0_isApart w0_row w0_can_18 w0_could_15) H → va_D A (wd_Mo_canGoOn cI cJ cG cZ a0 a0_from a0_to a0_near a0_lists a0_colours a0_shades a0_tints a0_attempt a0_taken a0_isApart a0_ways a0_next a0_splits a0_powers a0_row a0_many a0_can a0_could a0_arcRow a0_order a0_isOut v0_thrown v0_nodes v0_arcs v0_takenMany v0_leftBits v0_hasPolynomial v0_hasLists w0_near w0_lists w0_isApart w0_row w0_can_18 w0_could_15) → va_S A s.heap H locs → W p l e (headSpec us_Mo_canGoOn rm_Mo_canGoOn).room s m ([.ref a0, .int p1] : List Value).toArray below meth c H locs 0 0 (MQ below (va_Qi (fun (r : Int32) (_ : Unit) => ret = r ∧ bz r) (fun _ t => PoS (dC, dI) (tyL cI cJ cG cZ) (wd_Mo_canGoOn cI cJ cG cZ a0 a0_from a0_to a0_near a0_lists a0_colours a0_shades a0_tints a0_attempt a0_taken a0_isApart a0_ways a0_next a0_splits a0_powers a0_row a0_many a0_can a0_could a0_arcRow a0_order a0_isOut v0_thrown v0_nodes v0_arcs v0_takenMany v0_leftBits v0_hasPolynomial v0_hasLists w0_near w0_lists w0_isApart w0_row o_w0_can o_w0_could) A t) A) ([.ref a0, .int p1] : List Value).toArray s 0 0 A) (F0 m 270 ls []))) hm (fun k_270 z_270 ih_270 hm => ?_) _ _ rfl ls H locs (lv_sub hl [1, 2, 3, 4, 0] rfl) hP hD hS
          intro x5_17 w0_can_18 hz ls H locs hl hP hD hS
          subst hz
          dsimp only at hm
          refine lv_iload hx hb d_Mo_canGoOn_270 (lv_at hl 4 rfl) ?_
          refine lv_iload_n hx hb d_Mo_canGoOn_272 rfl (lv_at hl 2 rfl) ?_
          refine lv_icmp_gt (tgt := 296) hx hb d_Mo_canGoOn_273 (by decide) (fun c_19 => ?_) (fun c_19 => ?_)
          · have hm := ite_t c_19 hm
            obtain ⟨x3_20, ex3_20⟩ : ∃ y : Int32, y = x3_5 + 1 := ⟨_, rfl⟩
            have hm := gB_at ex3_20 hm
            refine lv_iinc (v := x3_20) (lv' := [(3, .int x3_20), (0, .ref a0), (1, .int p1), (2, .int x2_1), (5, .int x5_17)]) hx hb d_Mo_canGoOn_296 hl (k := 3) rfl (by rw [ex3_20]; rfl) (by decide) rfl (fun ls hl => ?_)
            refine lv_goto (tgt := 41) hx hb d_Mo_canGoOn_299 (by decide) ?_
            exact ih_41 _ hm _ _ _ rfl ls H locs (lv_sub hl [1, 2, 3, 0] rfl) hP hD hS
          · have hm := ite_f c_19 hm
            refine lv_aload_n hx hb d_Mo_canGoOn_276 rfl (lv_at hl 0 rfl) ?_
            refine va_get (D := (dC, dI)) (ci := 8) (v := .ref a0_can) (C := R_Mo) (T := T_Mo) (N := 28) hx hb htt hin_Mo hown hK hP 0 rfl rfl 23 (by decide) (htt _ kt_792) (fun _ h9 => h9) rfl d_Mo_canGoOn_277 ?_
            refine lv_iload hx hb d_Mo_canGoOn_280 (lv_at hl 4 rfl) ?_
            refine lv_aload_n hx hb d_Mo_canGoOn_282 rfl (lv_at hl 0 rfl) ?_
            refine va_get (D := (dC, dI)) (ci := 8) (v := .ref a0_could) (C := R_Mo) (T := T_Mo) (N := 28) hx hb htt hin_Mo hown hK hP 0 rfl rfl 24 (by decide) (htt _ kt_793) (fun _ h9 => h9) rfl d_Mo_canGoOn_283 ?_
            refine lv_iload hx hb d_Mo_canGoOn_286 (lv_at hl 4 rfl) ?_
            obtain ⟨hi_21, hm⟩ := gC_e hm
            refine va_zald hx hb hK hP 6 3 rfl rfl (inb_vp hi_21) d_Mo_canGoOn_288 ?_
            obtain ⟨hi_22, hm⟩ := gC_e hm
            refine va_zast hx hb hK hP hD hS 5 3 rfl rfl (inb_vp hi_22) d_Mo_canGoOn_289 (fun H locs hP hD hS => ?_)
            have hP : va_P (dC, dI) vwCl (wd_Mo_canGoOn cI cJ cG cZ a0 a0_from a0_to a0_near a0_lists a0_colours a0_shades a0_tints a0_attempt a0_taken a0_isApart a0_ways a0_next a0_splits a0_powers a0_row a0_many a0_can a0_could a0_arcRow a0_order a0_isOut v0_thrown v0_nodes v0_arcs v0_takenMany v0_leftBits v0_hasPolynomial v0_hasLists w0_near w0_lists w0_isApart w0_row (upd w0_can_18 x5_17.toNatClampNeg (vp_nar .boolean (w0_could_15 x5_17.toNatClampNeg))) w0_could_15) H := hP
            have hD : va_D A (wd_Mo_canGoOn cI cJ cG cZ a0 a0_from a0_to a0_near a0_lists a0_colours a0_shades a0_tints a0_attempt a0_taken a0_isApart a0_ways a0_next a0_splits a0_powers a0_row a0_many a0_can a0_could a0_arcRow a0_order a0_isOut v0_thrown v0_nodes v0_arcs v0_takenMany v0_leftBits v0_hasPolynomial v0_hasLists w0_near w0_lists w0_isApart w0_row (upd w0_can_18 x5_17.toNatClampNeg (vp_nar .boolean (w0_could_15 x5_17.toNatClampNeg))) w0_could_15) := hD
            obtain ⟨x5_23, ex5_23⟩ : ∃ y : Int32, y = x5_17 + 1 := ⟨_, rfl⟩
            have hm := gB_at ex5_23 hm
            refine lv_iinc (v := x5_23) (lv' := [(5, .int x5_23), (0, .ref a0), (1, .int p1), (2, .int x2_1), (3, .int x3_5)]) hx hb d_Mo_canGoOn_290 hl (k := 4) rfl (by rw [ex5_23]; rfl) (by decide) rfl (fun ls hl => ?_)
            refine lv_goto (tgt := 270) hx hb d_Mo_canGoOn_293 (by decide) ?_
            exact ih_270 _ hm _ _ rfl ls H locs (lv_sub hl [1, 2, 3, 4, 0] rfl) hP hD hS
        · have hm := ite_f c_16 hm
          refine lv_aload_n hx hb d_Mo_canGoOn_173 rfl (lv_at hl 0 rfl) ?_
          refine va_get (D := (dC, dI)) (ci := 8) (v := .ref a0_could) (C := R_Mo) (T := T_Mo) (N := 28) hx hb htt hin_Mo hown hK hP 0 rfl rfl 24 (by decide) (htt _ kt_793) (fun _ h9 => h9) rfl d_Mo_canGoOn_174 ?_
          refine lv_iload hx hb d_Mo_canGoOn_177 (lv_at hl 5 rfl) ?_
          refine lv_aload_n hx hb d_Mo_canGoOn_179 rfl (lv_at hl 0 rfl) ?_
          refine va_get (D := (dC, dI)) (ci := 8) (v := .ref a0_can) (C := R_Mo) (T := T_Mo) (N := 28) hx hb htt hin_Mo hown hK hP 0 rfl rfl 23 (by decide) (htt _ kt_792) (fun _ h9 => h9) rfl d_Mo_canGoOn_180 ?_
          refine lv_iload hx hb d_Mo_canGoOn_183 (lv_at hl 5 rfl) ?_
          obtain ⟨hi_24, hm⟩ := gC_e hm
          refine va_zald hx hb hK hP 5 3 rfl rfl (inb_vp hi_24) d_Mo_canGoOn_185 ?_
          obtain ⟨hi_25, hm⟩ := gC_e hm
          refine va_zast hx hb hK hP hD hS 6 3 rfl rfl (inb_vp hi_25) d_Mo_canGoOn_186 (fun H locs hP hD hS => ?_)
          have hP : va_P (dC, dI) vwCl (wd_Mo_canGoOn cI cJ cG cZ a0 a0_from a0_to a0_near a0_lists a0_colours a0_shades a0_tints a0_attempt a0_taken a0_isApart a0_ways a0_next a0_splits a0_powers a0_row a0_many a0_can a0_could a0_arcRow a0_order a0_isOut v0_thrown v0_nodes v0_arcs v0_takenMany v0_leftBits v0_hasPolynomial v0_hasLists w0_near w0_lists w0_isApart w0_row w0_can_6 (upd w0_could_15 x5_14.toNatClampNeg (vp_nar .boolean (w0_can_6 x5_14.toNatClampNeg)))) H := hP
          have hD : va_D A (wd_Mo_canGoOn cI cJ cG cZ a0 a0_from a0_to a0_near a0_lists a0_colours a0_shades a0_tints a0_attempt a0_taken a0_isApart a0_ways a0_next a0_splits a0_powers a0_row a0_many a0_can a0_could a0_arcRow a0_order a0_isOut v0_thrown v0_nodes v0_arcs v0_takenMany v0_leftBits v0_hasPolynomial v0_hasLists w0_near w0_lists w0_isApart w0_row w0_can_6 (upd w0_could_15 x5_14.toNatClampNeg (vp_nar .boolean (w0_can_6 x5_14.toNatClampNeg)))) := hD
          refine lv_iload hx hb d_Mo_canGoOn_187 (lv_at hl 5 rfl) ?_
          refine lv_iload hx hb d_Mo_canGoOn_189 (lv_at hl 4 rfl) ?_
          refine lv_iand hx hb d_Mo_canGoOn_191 ?_
          refine lv_topi (fun x6_26 ex6_26 => ?_)
          have hm := gB_at ex6_26 hm
          refine lv_istore (lv' := [(6, .int x6_26), (0, .ref a0), (1, .int p1), (2, .int x2_1), (3, .int x3_5), (4, .int x4_11), (5, .int x5_14)]) hx hb d_Mo_canGoOn_192 hl (by decide) rfl (fun ls hl => ?_)
          refine gL_e (P := (fun (z_194 : Int32 × (Nat → Int32)) => ∀ (x6_27 : Int32), ∀ (w0_could_28 : Nat → Int32), z_194 = (x6_27, w0_could_28) → ∀ (ls : Array Slot) (H : Heap) (locs : List Loc), lv_has ls 8 [(0, .ref a0), (1, .int p1), (2, .int x2_1), (3, .int x3_5), (4, .int x4_11), (5, .int x5_14), (6, .int x6_27)] → va_P (dC, dI) vwCl (wd_Mo_canGoOn cI cJ cG cZ a0 a0_from a0_to a0_near a0_lists a0_colours a0_shades a0_tints a0_attempt a0_taken a0_isApart a0_ways a0_next a0_splits a0_powers a0_row a0_many a0_can a0_could a0_arcRow a0_order a0_isOut v0_thrown v0_nodes v0_arcs v0_takenMany v0_leftBits v0_hasPolynomial v0_hasLists w0_near w0_lists w0_isApart w0_row w0_can_6 w0_could_28) H → va_D A (wd_Mo_canGoOn cI cJ cG cZ a0 a0_from a0_to a0_near a0_lists a0_colours a0_shades a0_tints a0_attempt a0_taken a0_isApart a0_ways a0_next a0_splits a0_powers a0_row a0_many a0_can a0_could a0_arcRow a0_order a0_isOut v0_thrown v0_nodes v0_arcs v0_takenMany v0_leftBits v0_hasPolynomial v0_hasLists w0_near w0_lists w0_isApart w0_row w0_can_6 w0_could_28) → va_S A s.heap H locs → W p l e (headSpec us_Mo_canGoOn rm_Mo_canGoOn).room s m ([.ref a0, .int p1] : List Value).toArray below meth c H locs 0 0 (MQ below (va_Qi (fun (r : Int32) (_ : Unit) => ret = r ∧ bz r) (fun _ t => PoS (dC, dI) (tyL cI cJ cG cZ) (wd_Mo_canGoOn cI cJ cG cZ a0 a0_from a0_to a0_near a0_lists a0_colours a0_shades a0_tints a0_attempt a0_taken a0_isApart a0_ways a0_next a0_splits a0_powers a0_row a0_many a0_can a0_could a0_arcRow a0_order a0_isOut v0_thrown v0_nodes v0_arcs v0_takenMany v0_leftBits v0_hasPolynomial v0_hasLists w0_near w0_lists w0_isApart w0_row o_w0_can o_w0_could) A t) A) ([.ref a0, .int p1] : List Value).toArray s 0 0 A) (F0 m 194 ls []))) hm (fun k_194 z_194 ih_194 hm => ?_) _ _ rfl ls H locs (lv_sub hl [1, 2, 3, 4, 5, 6, 0] rfl) hP hD hS
          intro x6_27 w0_could_28 hz ls H locs hl hP hD hS
          subst hz
          dsimp only at hm
          refine lv_iload hx hb d_Mo_canGoOn_194 (lv_at hl 6 rfl) ?_
          refine lv_if_le (tgt := 261) hx hb d_Mo_canGoOn_196 (by decide) (fun c_29 => ?_) (fun c_29 => ?_)
          · have hm := ite_t c_29 hm
            obtain ⟨x5_30, ex5_30⟩ : ∃ y : Int32, y = x5_14 + 1 := ⟨_, rfl⟩
            have hm := gB_at ex5_30 hm
            refine lv_iinc (v := x5_30) (lv' := [(5, .int x5_30), (0, .ref a0), (1, .int p1), (2, .int x2_1), (3, .int x3_5), (4, .int x4_11), (6, .int x6_27)]) hx hb d_Mo_canGoOn_261 hl (k := 5) rfl (by rw [ex5_30]; rfl) (by decide) rfl (fun ls hl => ?_)
            refine lv_goto (tgt := 167) hx hb d_Mo_canGoOn_264 (by decide) ?_
            exact ih_167 _ hm _ _ rfl ls H locs (lv_sub hl [1, 2, 3, 4, 5, 0] rfl) hP hD hS
          · have hm := ite_f c_29 hm
            refine lv_aload_n hx hb d_Mo_canGoOn_199 rfl (lv_at hl 0 rfl) ?_
            refine va_get (D := (dC, dI)) (ci := 8) (v := .ref a0_could) (C := R_Mo) (T := T_Mo) (N := 28) hx hb htt hin_Mo hown hK hP 0 rfl rfl 24 (by decide) (htt _ kt_793) (fun _ h9 => h9) rfl d_Mo_canGoOn_200 ?_
            refine lv_iload hx hb d_Mo_canGoOn_203 (lv_at hl 5 rfl) ?_
            obtain ⟨hi_31, hm⟩ := gC_e hm
            refine va_zald hx hb hK hP 6 3 rfl rfl (inb_vp hi_31) d_Mo_canGoOn_205 ?_
            refine lv_if_ne (tgt := 261) hx hb d_Mo_canGoOn_206 (by decide) (fun c_32 => ?_) (fun c_32 => ?_)
            · have hm := ite_f c_32 hm
              obtain ⟨x5_33, ex5_33⟩ : ∃ y : Int32, y = x5_14 + 1 := ⟨_, rfl⟩
              have hm := gB_at ex5_33 hm
              refine lv_iinc (v := x5_33) (lv' := [(5, .int x5_33), (0, .ref a0), (1, .int p1), (2, .int x2_1), (3, .int x3_5), (4, .int x4_11), (6, .int x6_27)]) hx hb d_Mo_canGoOn_261 hl (k := 5) rfl (by rw [ex5_33]; rfl) (by decide) rfl (fun ls hl => ?_)
              refine lv_goto (tgt := 167) hx hb d_Mo_canGoOn_264 (by decide) ?_
              exact ih_167 _ hm _ _ rfl ls H locs (lv_sub hl [1, 2, 3, 4, 5, 0] rfl) hP hD hS
            · have hm := ite_t c_32 hm
              refine lv_aload_n hx hb d_Mo_canGoOn_209 rfl (lv_at hl 0 rfl) ?_
              refine va_get (D := (dC, dI)) (ci := 8) (v := .ref a0_could) (C := R_Mo) (T := T_Mo) (N := 28) hx hb htt hin_Mo hown hK hP 0 rfl rfl 24 (by decide) (htt _ kt_793) (fun _ h9 => h9) rfl d_Mo_canGoOn_210 ?_
              refine lv_iload hx hb d_Mo_canGoOn_213 (lv_at hl 5 rfl) ?_
              refine lv_aload_n hx hb d_Mo_canGoOn_215 rfl (lv_at hl 0 rfl) ?_
              refine va_get (D := (dC, dI)) (ci := 8) (v := .ref a0_isApart) (C := R_Mo) (T := T_Mo) (N := 28) hx hb htt hin_Mo hown hK hP 0 rfl rfl 14 (by decide) (htt _ kt_783) (fun _ h9 => h9) rfl d_Mo_canGoOn_216 ?_
              refine lv_iload hx hb d_Mo_canGoOn_219 (lv_at hl 6 rfl) ?_
              refine lv_iload_n hx hb d_Mo_canGoOn_221 rfl (lv_at hl 1 rfl) ?_
              refine lv_ishl hx hb d_Mo_canGoOn_222 ?_
              obtain ⟨hi_34, hm⟩ := gC_e hm
              refine va_zald hx hb hK hP 3 3 rfl rfl (inb_vp hi_34) d_Mo_canGoOn_223 ?_
              obtain ⟨J_245, hJ_245, hm⟩ := gB_x hm
              have jp_245 : ∀ (s_35 : Int32) (ls : Array Slot) (H : Heap) (locs : List Loc), J_245 s_35 = some (ret, o_w0_can, o_w0_could) → lv_has ls 8 [(0, .ref a0), (1, .int p1), (2, .int x2_1), (3, .int x3_5), (4, .int x4_11), (5, .int x5_14), (6, .int x6_27)] → va_P (dC, dI) vwCl (wd_Mo_canGoOn cI cJ cG cZ a0 a0_from a0_to a0_near a0_lists a0_colours a0_shades a0_tints a0_attempt a0_taken a0_isApart a0_ways a0_next a0_splits a0_powers a0_row a0_many a0_can a0_could a0_arcRow a0_order a0_isOut v0_thrown v0_nodes v0_arcs v0_takenMany v0_leftBits v0_hasPolynomial v0_hasLists w0_near w0_lists w0_isApart w0_row w0_can_6 w0_could_28) H → va_D A (wd_Mo_canGoOn cI cJ cG cZ a0 a0_from a0_to a0_near a0_lists a0_colours a0_shades a0_tints a0_attempt a0_taken a0_isApart a0_ways a0_next a0_splits a0_powers a0_row a0_many a0_can a0_could a0_arcRow a0_order a0_isOut v0_thrown v0_nodes v0_arcs v0_takenMany v0_leftBits v0_hasPolynomial v0_hasLists w0_near w0_lists w0_isApart w0_row w0_can_6 w0_could_28) → va_S A s.heap H locs → W p l e (headSpec us_Mo_canGoOn rm_Mo_canGoOn).room s m ([.ref a0, .int p1] : List Value).toArray below meth c H locs 0 0 (MQ below (va_Qi (fun (r : Int32) (_ : Unit) => ret = r ∧ bz r) (fun _ t => PoS (dC, dI) (tyL cI cJ cG cZ) (wd_Mo_canGoOn cI cJ cG cZ a0 a0_from a0_to a0_near a0_lists a0_colours a0_shades a0_tints a0_attempt a0_taken a0_isApart a0_ways a0_next a0_splits a0_powers a0_row a0_many a0_can a0_could a0_arcRow a0_order a0_isOut v0_thrown v0_nodes v0_arcs v0_takenMany v0_leftBits v0_hasPolynomial v0_hasLists w0_near w0_lists w0_isApart w0_row o_w0_can o_w0_could) A t) A) ([.ref a0, .int p1] : List Value).toArray s 0 0 A) (F0 m 245 ls [.int s_35, .int x5_14, .ref a0_could]) := by
                intro s_35 ls H locs hm hl hP hD hS
                have hm := jn1 hJ_245 hm
                obtain ⟨hi_36, hm⟩ := gC_e hm
                refine va_zast hx hb hK hP hD hS 6 3 rfl rfl (inb_vp hi_36) d_Mo_canGoOn_245 (fun H locs hP hD hS => ?_)
                have hP : va_P (dC, dI) vwCl (wd_Mo_canGoOn cI cJ cG cZ a0 a0_from a0_to a0_near a0_lists a0_colours a0_shades a0_tints a0_attempt a0_taken a0_isApart a0_ways a0_next a0_splits a0_powers a0_row a0_many a0_can a0_could a0_arcRow a0_order a0_isOut v0_thrown v0_nodes v0_arcs v0_takenMany v0_leftBits v0_hasPolynomial v0_hasLists w0_near w0_lists w0_isApart w0_row w0_can_6 (upd w0_could_28 x5_14.toNatClampNeg (vp_nar .boolean s_35))) H := hP
                have hD : va_D A (wd_Mo_canGoOn cI cJ cG cZ a0 a0_from a0_to a0_near a0_lists a0_colours a0_shades a0_tints a0_attempt a0_taken a0_isApart a0_ways a0_next a0_splits a0_powers a0_row a0_many a0_can a0_could a0_arcRow a0_order a0_isOut v0_thrown v0_nodes v0_arcs v0_takenMany v0_leftBits v0_hasPolynomial v0_hasLists w0_near w0_lists w0_isApart w0_row w0_can_6 (upd w0_could_28 x5_14.toNatClampNeg (vp_nar .boolean s_35))) := hD
                refine lv_iload hx hb d_Mo_canGoOn_246 (lv_at hl 6 rfl) ?_
                refine lv_iconst (v := 1) hx hb d_Mo_canGoOn_248 (by decide) ?_
                refine lv_isub hx hb d_Mo_canGoOn_249 ?_
                refine lv_iload hx hb d_Mo_canGoOn_250 (lv_at hl 5 rfl) ?_
                refine lv_iand hx hb d_Mo_canGoOn_252 ?_
                refine lv_iload hx hb d_Mo_canGoOn_253 (lv_at hl 4 rfl) ?_
                refine lv_iand hx hb d_Mo_canGoOn_255 ?_
                refine lv_topi (fun x6_37 ex6_37 => ?_)
                have hm := gB_at ex6_37 hm
                refine lv_istore (lv' := [(6, .int x6_37), (0, .ref a0), (1, .int p1), (2, .int x2_1), (3, .int x3_5), (4, .int x4_11), (5, .int x5_14)]) hx hb d_Mo_canGoOn_256 hl (by decide) rfl (fun ls hl => ?_)
                refine lv_goto (tgt := 194) hx hb d_Mo_canGoOn_258 (by decide) ?_
                exact ih_194 _ hm _ _ rfl ls H locs (lv_sub hl [1, 2, 3, 4, 5, 6, 0] rfl) hP hD hS
              clear hJ_245
              obtain ⟨J_244, hJ_244, hm⟩ := gB_x hm
              have jp_244 : ∀ (ls : Array Slot) (H : Heap) (locs : List Loc), J_244 = some (ret, o_w0_can, o_w0_could) → lv_has ls 8 [(0, .ref a0), (1, .int p1), (2, .int x2_1), (3, .int x3_5), (4, .int x4_11), (5, .int x5_14), (6, .int x6_27)] → va_P (dC, dI) vwCl (wd_Mo_canGoOn cI cJ cG cZ a0 a0_from a0_to a0_near a0_lists a0_colours a0_shades a0_tints a0_attempt a0_taken a0_isApart a0_ways a0_next a0_splits a0_powers a0_row a0_many a0_can a0_could a0_arcRow a0_order a0_isOut v0_thrown v0_nodes v0_arcs v0_takenMany v0_leftBits v0_hasPolynomial v0_hasLists w0_near w0_lists w0_isApart w0_row w0_can_6 w0_could_28) H → va_D A (wd_Mo_canGoOn cI cJ cG cZ a0 a0_from a0_to a0_near a0_lists a0_colours a0_shades a0_tints a0_attempt a0_taken a0_isApart a0_ways a0_next a0_splits a0_powers a0_row a0_many a0_can a0_could a0_arcRow a0_order a0_isOut v0_thrown v0_nodes v0_arcs v0_takenMany v0_leftBits v0_hasPolynomial v0_hasLists w0_near w0_lists w0_isApart w0_row w0_can_6 w0_could_28) → va_S A s.heap H locs → W p l e (headSpec us_Mo_canGoOn rm_Mo_canGoOn).room s m ([.ref a0, .int p1] : List Value).toArray below meth c H locs 0 0 (MQ below (va_Qi (fun (r : Int32) (_ : Unit) => ret = r ∧ bz r) (fun _ t => PoS (dC, dI) (tyL cI cJ cG cZ) (wd_Mo_canGoOn cI cJ cG cZ a0 a0_from a0_to a0_near a0_lists a0_colours a0_shades a0_tints a0_attempt a0_taken a0_isApart a0_ways a0_next a0_splits a0_powers a0_row a0_many a0_can a0_could a0_arcRow a0_order a0_isOut v0_thrown v0_nodes v0_arcs v0_takenMany v0_leftBits v0_hasPolynomial v0_hasLists w0_near w0_lists w0_isApart w0_row o_w0_can o_w0_could) A t) A) ([.ref a0, .int p1] : List Value).toArray s 0 0 A) (F0 m 244 ls [.int x5_14, .ref a0_could]) := by
                intro ls H locs hm hl hP hD hS
                have hm := jn0 hJ_244 hm
                refine lv_iconst (v := 0) hx hb d_Mo_canGoOn_244 (by decide) ?_
                exact jp_245 _ ls H locs hm (lv_sub hl [0, 1, 2, 3, 4, 5, 6] rfl) hP hD hS
              clear hJ_244
              refine lv_if_eq (tgt := 244) hx hb d_Mo_canGoOn_224 (by decide) (fun c_38 => ?_) (fun c_38 => ?_)
              · have hm := ite_t c_38 hm
                exact jp_244 ls H locs hm (lv_sub hl [0, 1, 2, 3, 4, 5, 6] rfl) hP hD hS
              · have hm := ite_f c_38 hm
                refine lv_aload_n hx hb d_Mo_canGoOn_227 rfl (lv_at hl 0 rfl) ?_
                refine va_get (D := (dC, dI)) (ci := 8) (v := .ref a0_can) (C := R_Mo) (T := T_Mo) (N := 28) hx hb htt hin_Mo hown hK hP 0 rfl rfl 23 (by decide) (htt _ kt_792) (fun _ h9 => h9) rfl d_Mo_canGoOn_228 ?_
                refine lv_iload hx hb d_Mo_canGoOn_231 (lv_at hl 5 rfl) ?_
                refine lv_iload hx hb d_Mo_canGoOn_233 (lv_at hl 6 rfl) ?_
                refine lv_ixor hx hb d_Mo_canGoOn_235 ?_
                obtain ⟨hi_39, hm⟩ := gC_e hm
                refine va_zald hx hb hK hP 5 3 rfl rfl (inb_vp hi_39) d_Mo_canGoOn_236 ?_
                refine lv_if_eq (tgt := 244) hx hb d_Mo_canGoOn_237 (by decide) (fun c_40 => ?_) (fun c_40 => ?_)
                · have hm := ite_t c_40 hm
                  exact jp_244 ls H locs hm (lv_sub hl [0, 1, 2, 3, 4, 5, 6] rfl) hP hD hS
                · have hm := ite_f c_40 hm
                  refine lv_iconst (v := 1) hx hb d_Mo_canGoOn_240 (by decide) ?_
                  refine lv_goto (tgt := 245) hx hb d_Mo_canGoOn_241 (by decide) ?_
                  exact jp_245 _ ls H locs hm (lv_sub hl [0, 1, 2, 3, 4, 5, 6] rfl) hP hD hS
      · have hm := ite_f c_13 hm
        refine lv_aload_n hx hb d_Mo_canGoOn_62 rfl (lv_at hl 0 rfl) ?_
        refine va_get (D := (dC, dI)) (ci := 8) (v := .ref a0_lists) (C := R_Mo) (T := T_Mo) (N := 28) hx hb htt hin_Mo hown hK hP 0 rfl rfl 6 (by decide) (htt _ kt_775) (fun _ h9 => h9) rfl d_Mo_canGoOn_63 ?_
        refine lv_iload hx hb d_Mo_canGoOn_66 (lv_at hl 5 rfl) ?_
        obtain ⟨hi_41, hm⟩ := gC_e hm
        refine va_iald hx hb hK hP 2 0 rfl rfl (inb_vp hi_41) d_Mo_canGoOn_68 ?_
        refine lv_iload_n hx hb d_Mo_canGoOn_69 rfl (lv_at hl 3 rfl) ?_
        refine lv_ishr hx hb d_Mo_canGoOn_70 ?_
        refine lv_iconst (v := 1) hx hb d_Mo_canGoOn_71 (by decide) ?_
        refine lv_iand hx hb d_Mo_canGoOn_72 ?_
        refine lv_iconst (v := 1) hx hb d_Mo_canGoOn_73 (by decide) ?_
        obtain ⟨J_82, hJ_82, hm⟩ := gB_x hm
        have jp_82 : ∀ (s_42 : Int32) (ls : Array Slot) (H : Heap) (locs : List Loc), J_82 s_42 = some (ret, o_w0_can, o_w0_could) → lv_has ls 8 [(0, .ref a0), (1, .int p1), (2, .int x2_1), (3, .int x3_5), (4, .int x4_11), (5, .int x5_12)] → va_P (dC, dI) vwCl (wd_Mo_canGoOn cI cJ cG cZ a0 a0_from a0_to a0_near a0_lists a0_colours a0_shades a0_tints a0_attempt a0_taken a0_isApart a0_ways a0_next a0_splits a0_powers a0_row a0_many a0_can a0_could a0_arcRow a0_order a0_isOut v0_thrown v0_nodes v0_arcs v0_takenMany v0_leftBits v0_hasPolynomial v0_hasLists w0_near w0_lists w0_isApart w0_row w0_can_6 w0_could_7) H → va_D A (wd_Mo_canGoOn cI cJ cG cZ a0 a0_from a0_to a0_near a0_lists a0_colours a0_shades a0_tints a0_attempt a0_taken a0_isApart a0_ways a0_next a0_splits a0_powers a0_row a0_many a0_can a0_could a0_arcRow a0_order a0_isOut v0_thrown v0_nodes v0_arcs v0_takenMany v0_leftBits v0_hasPolynomial v0_hasLists w0_near w0_lists w0_isApart w0_row w0_can_6 w0_could_7) → va_S A s.heap H locs → W p l e (headSpec us_Mo_canGoOn rm_Mo_canGoOn).room s m ([.ref a0, .int p1] : List Value).toArray below meth c H locs 0 0 (MQ below (va_Qi (fun (r : Int32) (_ : Unit) => ret = r ∧ bz r) (fun _ t => PoS (dC, dI) (tyL cI cJ cG cZ) (wd_Mo_canGoOn cI cJ cG cZ a0 a0_from a0_to a0_near a0_lists a0_colours a0_shades a0_tints a0_attempt a0_taken a0_isApart a0_ways a0_next a0_splits a0_powers a0_row a0_many a0_can a0_could a0_arcRow a0_order a0_isOut v0_thrown v0_nodes v0_arcs v0_takenMany v0_leftBits v0_hasPolynomial v0_hasLists w0_near w0_lists w0_isApart w0_row o_w0_can o_w0_could) A t) A) ([.ref a0, .int p1] : List Value).toArray s 0 0 A) (F0 m 82 ls [.int s_42]) := by
          intro s_42 ls H locs hm hl hP hD hS
          have hm := jn1 hJ_82 hm
          refine lv_istore (lv' := [(6, .int s_42), (0, .ref a0), (1, .int p1), (2, .int x2_1), (3, .int x3_5), (4, .int x4_11), (5, .int x5_12)]) hx hb d_Mo_canGoOn_82 hl (by decide) rfl (fun ls hl => ?_)
          refine lv_iconst (v := 0) hx hb d_Mo_canGoOn_84 (by decide) ?_
          refine lv_istore (lv' := [(7, .int 0), (6, .int s_42), (0, .ref a0), (1, .int p1), (2, .int x2_1), (3, .int x3_5), (4, .int x4_11), (5, .int x5_12)]) hx hb d_Mo_canGoOn_85 hl (by decide) rfl (fun ls hl => ?_)
          refine gL_e (P := (fun (z_87 : Int32 × Int32) => ∀ (x6_43 : Int32), ∀ (x7_44 : Int32), z_87 = (x6_43, x7_44) → ∀ (ls : Array Slot) (H : Heap) (locs : List Loc), lv_has ls 8 [(0, .ref a0), (1, .int p1), (2, .int x2_1), (3, .int x3_5), (4, .int x4_11), (5, .int x5_12), (6, .int x6_43), (7, .int x7_44)] → va_P (dC, dI) vwCl (wd_Mo_canGoOn cI cJ cG cZ a0 a0_from a0_to a0_near a0_lists a0_colours a0_shades a0_tints a0_attempt a0_taken a0_isApart a0_ways a0_next a0_splits a0_powers a0_row a0_many a0_can a0_could a0_arcRow a0_order a0_isOut v0_thrown v0_nodes v0_arcs v0_takenMany v0_leftBits v0_hasPolynomial v0_hasLists w0_near w0_lists w0_isApart w0_row w0_can_6 w0_could_7) H → va_D A (wd_Mo_canGoOn cI cJ cG cZ a0 a0_from a0_to a0_near a0_lists a0_colours a0_shades a0_tints a0_attempt a0_taken a0_isApart a0_ways a0_next a0_splits a0_powers a0_row a0_many a0_can a0_could a0_arcRow a0_order a0_isOut v0_thrown v0_nodes v0_arcs v0_takenMany v0_leftBits v0_hasPolynomial v0_hasLists w0_near w0_lists w0_isApart w0_row w0_can_6 w0_could_7) → va_S A s.heap H locs → W p l e (headSpec us_Mo_canGoOn rm_Mo_canGoOn).room s m ([.ref a0, .int p1] : List Value).toArray below meth c H locs 0 0 (MQ below (va_Qi (fun (r : Int32) (_ : Unit) => ret = r ∧ bz r) (fun _ t => PoS (dC, dI) (tyL cI cJ cG cZ) (wd_Mo_canGoOn cI cJ cG cZ a0 a0_from a0_to a0_near a0_lists a0_colours a0_shades a0_tints a0_attempt a0_taken a0_isApart a0_ways a0_next a0_splits a0_powers a0_row a0_many a0_can a0_could a0_arcRow a0_order a0_isOut v0_thrown v0_nodes v0_arcs v0_takenMany v0_leftBits v0_hasPolynomial v0_hasLists w0_near w0_lists w0_isApart w0_row o_w0_can o_w0_could) A t) A) ([.ref a0, .int p1] : List Value).toArray s 0 0 A) (F0 m 87 ls []))) hm (fun k_87 z_87 ih_87 hm => ?_) _ _ rfl ls H locs (lv_sub hl [2, 3, 4, 5, 6, 7, 1, 0] rfl) hP hD hS
          intro x6_43 x7_44 hz ls H locs hl hP hD hS
          subst hz
          dsimp only at hm
          refine lv_iload hx hb d_Mo_canGoOn_87 (lv_at hl 7 rfl) ?_
          refine lv_iload_n hx hb d_Mo_canGoOn_89 rfl (lv_at hl 1 rfl) ?_
          refine lv_icmp_ge (tgt := 138) hx hb d_Mo_canGoOn_90 (by decide) (fun c_45 => ?_) (fun c_45 => ?_)
          · have hm := ite_t c_45 hm
            refine lv_iload hx hb d_Mo_canGoOn_138 (lv_at hl 4 rfl) ?_
            refine lv_iload hx hb d_Mo_canGoOn_140 (lv_at hl 6 rfl) ?_
            refine lv_if_eq (tgt := 154) hx hb d_Mo_canGoOn_142 (by decide) (fun c_46 => ?_) (fun c_46 => ?_)
            · have hm := ite_t c_46 hm
              refine lv_iconst (v := 0) hx hb d_Mo_canGoOn_154 (by decide) ?_
              refine lv_ior hx hb d_Mo_canGoOn_155 ?_
              refine lv_topi (fun x4_47 ex4_47 => ?_)
              have hm := gB_at ex4_47 hm
              refine lv_istore (lv' := [(4, .int x4_47), (0, .ref a0), (1, .int p1), (2, .int x2_1), (3, .int x3_5), (5, .int x5_12), (6, .int x6_43), (7, .int x7_44)]) hx hb d_Mo_canGoOn_156 hl (by decide) rfl (fun ls hl => ?_)
              obtain ⟨x5_48, ex5_48⟩ : ∃ y : Int32, y = x5_12 + 1 := ⟨_, rfl⟩
              have hm := gB_at ex5_48 hm
              refine lv_iinc (v := x5_48) (lv' := [(5, .int x5_48), (4, .int x4_47), (0, .ref a0), (1, .int p1), (2, .int x2_1), (3, .int x3_5), (6, .int x6_43), (7, .int x7_44)]) hx hb d_Mo_canGoOn_158 hl (k := 5) rfl (by rw [ex5_48]; rfl) (by decide) rfl (fun ls hl => ?_)
              refine lv_goto (tgt := 53) hx hb d_Mo_canGoOn_161 (by decide) ?_
              exact ih_53 _ hm _ _ rfl ls H locs (lv_sub hl [2, 3, 4, 5, 1, 0] rfl) hP hD hS
            · have hm := ite_f c_46 hm
              refine lv_iconst (v := 1) hx hb d_Mo_canGoOn_145 (by decide) ?_
              refine lv_iload hx hb d_Mo_canGoOn_146 (lv_at hl 5 rfl) ?_
              refine lv_iload_n hx hb d_Mo_canGoOn_148 rfl (lv_at hl 1 rfl) ?_
              refine lv_isub hx hb d_Mo_canGoOn_149 ?_
              refine lv_ishl hx hb d_Mo_canGoOn_150 ?_
              refine lv_goto (tgt := 155) hx hb d_Mo_canGoOn_151 (by decide) ?_
              refine lv_ior hx hb d_Mo_canGoOn_155 ?_
              refine lv_topi (fun x4_49 ex4_49 => ?_)
              have hm := gB_at ex4_49 hm
              refine lv_istore (lv' := [(4, .int x4_49), (0, .ref a0), (1, .int p1), (2, .int x2_1), (3, .int x3_5), (5, .int x5_12), (6, .int x6_43), (7, .int x7_44)]) hx hb d_Mo_canGoOn_156 hl (by decide) rfl (fun ls hl => ?_)
              obtain ⟨x5_50, ex5_50⟩ : ∃ y : Int32, y = x5_12 + 1 := ⟨_, rfl⟩
              have hm := gB_at ex5_50 hm
              refine lv_iinc (v := x5_50) (lv' := [(5, .int x5_50), (4, .int x4_49), (0, .ref a0), (1, .int p1), (2, .int x2_1), (3, .int x3_5), (6, .int x6_43), (7, .int x7_44)]) hx hb d_Mo_canGoOn_158 hl (k := 5) rfl (by rw [ex5_50]; rfl) (by decide) rfl (fun ls hl => ?_)
              refine lv_goto (tgt := 53) hx hb d_Mo_canGoOn_161 (by decide) ?_
              exact ih_53 _ hm _ _ rfl ls H locs (lv_sub hl [2, 3, 4, 5, 1, 0] rfl) hP hD hS
          · have hm := ite_f c_45 hm
            refine lv_iload hx hb d_Mo_canGoOn_93 (lv_at hl 6 rfl) ?_
            refine lv_if_eq (tgt := 129) hx hb d_Mo_canGoOn_95 (by decide) (fun c_51 => ?_) (fun c_51 => ?_)
            · have hm := ite_t c_51 hm
              refine lv_iconst (v := 0) hx hb d_Mo_canGoOn_129 (by decide) ?_
              refine lv_istore (lv' := [(6, .int 0), (0, .ref a0), (1, .int p1), (2, .int x2_1), (3, .int x3_5), (4, .int x4_11), (5, .int x5_12), (7, .int x7_44)]) hx hb d_Mo_canGoOn_130 hl (by decide) rfl (fun ls hl => ?_)
              obtain ⟨x7_52, ex7_52⟩ : ∃ y : Int32, y = x7_44 + 1 := ⟨_, rfl⟩
              have hm := gB_at ex7_52 hm
              refine lv_iinc (v := x7_52) (lv' := [(7, .int x7_52), (6, .int 0), (0, .ref a0), (1, .int p1), (2, .int x2_1), (3, .int x3_5), (4, .int x4_11), (5, .int x5_12)]) hx hb d_Mo_canGoOn_132 hl (k := 7) rfl (by rw [ex7_52]; rfl) (by decide) rfl (fun ls hl => ?_)
              refine lv_goto (tgt := 87) hx hb d_Mo_canGoOn_135 (by decide) ?_
              exact ih_87 _ hm _ _ rfl ls H locs (lv_sub hl [2, 3, 4, 5, 6, 7, 1, 0] rfl) hP hD hS
            · have hm := ite_f c_51 hm
              refine lv_aload_n hx hb d_Mo_canGoOn_98 rfl (lv_at hl 0 rfl) ?_
              refine va_get (D := (dC, dI)) (ci := 8) (v := .ref a0_near) (C := R_Mo) (T := T_Mo) (N := 28) hx hb htt hin_Mo hown hK hP 0 rfl rfl 5 (by decide) (htt _ kt_774) (fun _ h9 => h9) rfl d_Mo_canGoOn_99 ?_
              refine lv_iload hx hb d_Mo_canGoOn_102 (lv_at hl 5 rfl) ?_
              obtain ⟨hi_53, hm⟩ := gC_e hm
              refine va_iald hx hb hK hP 1 0 rfl rfl (inb_vp hi_53) d_Mo_canGoOn_104 ?_
              refine lv_iload hx hb d_Mo_canGoOn_105 (lv_at hl 7 rfl) ?_
              refine lv_ishr hx hb d_Mo_canGoOn_107 ?_
              refine lv_iconst (v := 1) hx hb d_Mo_canGoOn_108 (by decide) ?_
              refine lv_iand hx hb d_Mo_canGoOn_109 ?_
              refine lv_iconst (v := 1) hx hb d_Mo_canGoOn_110 (by decide) ?_
              obtain ⟨J_125, hJ_125, hm⟩ := gB_x hm
              have jp_125 : ∀ (ls : Array Slot) (H : Heap) (locs : List Loc), J_125 = some (ret, o_w0_can, o_w0_could) → lv_has ls 8 [(0, .ref a0), (1, .int p1), (2, .int x2_1), (3, .int x3_5), (4, .int x4_11), (5, .int x5_12), (7, .int x7_44)] → va_P (dC, dI) vwCl (wd_Mo_canGoOn cI cJ cG cZ a0 a0_from a0_to a0_near a0_lists a0_colours a0_shades a0_tints a0_attempt a0_taken a0_isApart a0_ways a0_next a0_splits a0_powers a0_row a0_many a0_can a0_could a0_arcRow a0_order a0_isOut v0_thrown v0_nodes v0_arcs v0_takenMany v0_leftBits v0_hasPolynomial v0_hasLists w0_near w0_lists w0_isApart w0_row w0_can_6 w0_could_7) H → va_D A (wd_Mo_canGoOn cI cJ cG cZ a0 a0_from a0_to a0_near a0_lists a0_colours a0_shades a0_tints a0_attempt a0_taken a0_isApart a0_ways a0_next a0_splits a0_powers a0_row a0_many a0_can a0_could a0_arcRow a0_order a0_isOut v0_thrown v0_nodes v0_arcs v0_takenMany v0_leftBits v0_hasPolynomial v0_hasLists w0_near w0_lists w0_isApart w0_row w0_can_6 w0_could_7) → va_S A s.heap H locs → W p l e (headSpec us_Mo_canGoOn rm_Mo_canGoOn).room s m ([.ref a0, .int p1] : List Value).toArray below meth c H locs 0 0 (MQ below (va_Qi (fun (r : Int32) (_ : Unit) => ret = r ∧ bz r) (fun _ t => PoS (dC, dI) (tyL cI cJ cG cZ) (wd_Mo_canGoOn cI cJ cG cZ a0 a0_from a0_to a0_near a0_lists a0_colours a0_shades a0_tints a0_attempt a0_taken a0_isApart a0_ways a0_next a0_splits a0_powers a0_row a0_many a0_can a0_could a0_arcRow a0_order a0_isOut v0_thrown v0_nodes v0_arcs v0_takenMany v0_leftBits v0_hasPolynomial v0_hasLists w0_near w0_lists w0_isApart w0_row o_w0_can o_w0_could) A t) A) ([.ref a0, .int p1] : List Value).toArray s 0 0 A) (F0 m 125 ls []) := by
                intro ls H locs hm hl hP hD hS
                have hm := jn0 hJ_125 hm
                refine lv_iconst (v := 1) hx hb d_Mo_canGoOn_125 (by decide) ?_
                refine lv_goto (tgt := 130) hx hb d_Mo_canGoOn_126 (by decide) ?_
                refine lv_istore (lv' := [(6, .int 1), (0, .ref a0), (1, .int p1), (2, .int x2_1), (3, .int x3_5), (4, .int x4_11), (5, .int x5_12), (7, .int x7_44)]) hx hb d_Mo_canGoOn_130 hl (by decide) rfl (fun ls hl => ?_)
                obtain ⟨x7_54, ex7_54⟩ : ∃ y : Int32, y = x7_44 + 1 := ⟨_, rfl⟩
                have hm := gB_at ex7_54 hm
                refine lv_iinc (v := x7_54) (lv' := [(7, .int x7_54), (6, .int 1), (0, .ref a0), (1, .int p1), (2, .int x2_1), (3, .int x3_5), (4, .int x4_11), (5, .int x5_12)]) hx hb d_Mo_canGoOn_132 hl (k := 7) rfl (by rw [ex7_54]; rfl) (by decide) rfl (fun ls hl => ?_)
                refine lv_goto (tgt := 87) hx hb d_Mo_canGoOn_135 (by decide) ?_
                exact ih_87 _ hm _ _ rfl ls H locs (lv_sub hl [2, 3, 4, 5, 6, 7, 1, 0] rfl) hP hD hS
              clear hJ_125
              refine lv_icmp_ne (tgt := 125) hx hb d_Mo_canGoOn_111 (by decide) (fun c_55 => ?_) (fun c_55 => ?_)
              · have hm := ite_f c_55 hm
                exact jp_125 ls H locs hm (lv_sub hl [0, 1, 2, 3, 4, 5, 7] rfl) hP hD hS
              · have hm := ite_t c_55 hm
                refine lv_aload_n hx hb d_Mo_canGoOn_114 rfl (lv_at hl 0 rfl) ?_
                refine va_get (D := (dC, dI)) (ci := 8) (v := .ref a0_row) (C := R_Mo) (T := T_Mo) (N := 28) hx hb htt hin_Mo hown hK hP 0 rfl rfl 19 (by decide) (htt _ kt_788) (fun _ h9 => h9) rfl d_Mo_canGoOn_115 ?_
                refine lv_iload hx hb d_Mo_canGoOn_118 (lv_at hl 7 rfl) ?_
                obtain ⟨hi_56, hm⟩ := gC_e hm
                refine va_iald hx hb hK hP 4 0 rfl rfl (inb_vp hi_56) d_Mo_canGoOn_120 ?_
                refine lv_iload_n hx hb d_Mo_canGoOn_121 rfl (lv_at hl 3 rfl) ?_
                refine lv_icmp_eq (tgt := 129) hx hb d_Mo_canGoOn_122 (by decide) (fun c_57 => ?_) (fun c_57 => ?_)
                · have hm := ite_t c_57 hm
                  refine lv_iconst (v := 0) hx hb d_Mo_canGoOn_129 (by decide) ?_
                  refine lv_istore (lv' := [(6, .int 0), (0, .ref a0), (1, .int p1), (2, .int x2_1), (3, .int x3_5), (4, .int x4_11), (5, .int x5_12), (7, .int x7_44)]) hx hb d_Mo_canGoOn_130 hl (by decide) rfl (fun ls hl => ?_)
                  obtain ⟨x7_58, ex7_58⟩ : ∃ y : Int32, y = x7_44 + 1 := ⟨_, rfl⟩
                  have hm := gB_at ex7_58 hm
                  refine lv_iinc (v := x7_58) (lv' := [(7, .int x7_58), (6, .int 0), (0, .ref a0), (1, .int p1), (2, .int x2_1), (3, .int x3_5), (4, .int x4_11), (5, .int x5_12)]) hx hb d_Mo_canGoOn_132 hl (k := 7) rfl (by rw [ex7_58]; rfl) (by decide) rfl (fun ls hl => ?_)
                  refine lv_goto (tgt := 87) hx hb d_Mo_canGoOn_135 (by decide) ?_
                  exact ih_87 _ hm _ _ rfl ls H locs (lv_sub hl [2, 3, 4, 5, 6, 7, 1, 0] rfl) hP hD hS
                · have hm := ite_f c_57 hm
                  exact jp_125 ls H locs hm (lv_sub hl [0, 1, 2, 3, 4, 5, 7] rfl) hP hD hS
        clear hJ_82
        refine lv_icmp_ne (tgt := 81) hx hb d_Mo_canGoOn_74 (by decide) (fun c_59 => ?_) (fun c_59 => ?_)
        · have hm := ite_f c_59 hm
          refine lv_iconst (v := 0) hx hb d_Mo_canGoOn_81 (by decide) ?_
          exact jp_82 _ ls H locs hm (lv_sub hl [0, 1, 2, 3, 4, 5] rfl) hP hD hS
        · have hm := ite_t c_59 hm
          refine lv_iconst (v := 1) hx hb d_Mo_canGoOn_77 (by decide) ?_
          refine lv_goto (tgt := 82) hx hb d_Mo_canGoOn_78 (by decide) ?_
          exact jp_82 _ ls H locs hm (lv_sub hl [0, 1, 2, 3, 4, 5] rfl) hP hD hS
  · have hm := ite_f c_4 hm
    refine lv_aload_n hx hb d_Mo_canGoOn_18 rfl (lv_at hl 0 rfl) ?_
    refine va_get (D := (dC, dI)) (ci := 8) (v := .ref a0_can) (C := R_Mo) (T := T_Mo) (N := 28) hx hb htt hin_Mo hown hK hP 0 rfl rfl 23 (by decide) (htt _ kt_792) (fun _ h9 => h9) rfl d_Mo_canGoOn_19 ?_
    refine lv_iload_n hx hb d_Mo_canGoOn_22 rfl (lv_at hl 3 rfl) ?_
    refine lv_iload_n hx hb d_Mo_canGoOn_23 rfl (lv_at hl 3 rfl) ?_
    obtain ⟨J_32, hJ_32, hm⟩ := gB_x hm
    have jp_32 : ∀ (s_60 : Int32) (ls : Array Slot) (H : Heap) (locs : List Loc), J_32 s_60 = some (ret, o_w0_can, o_w0_could) → lv_has ls 8 [(0, .ref a0), (1, .int p1), (2, .int x2_1), (3, .int x3_2)] → va_P (dC, dI) vwCl (wd_Mo_canGoOn cI cJ cG cZ a0 a0_from a0_to a0_near a0_lists a0_colours a0_shades a0_tints a0_attempt a0_taken a0_isApart a0_ways a0_next a0_splits a0_powers a0_row a0_many a0_can a0_could a0_arcRow a0_order a0_isOut v0_thrown v0_nodes v0_arcs v0_takenMany v0_leftBits v0_hasPolynomial v0_hasLists w0_near w0_lists w0_isApart w0_row w0_can_3 w0_could) H → va_D A (wd_Mo_canGoOn cI cJ cG cZ a0 a0_from a0_to a0_near a0_lists a0_colours a0_shades a0_tints a0_attempt a0_taken a0_isApart a0_ways a0_next a0_splits a0_powers a0_row a0_many a0_can a0_could a0_arcRow a0_order a0_isOut v0_thrown v0_nodes v0_arcs v0_takenMany v0_leftBits v0_hasPolynomial v0_hasLists w0_near w0_lists w0_isApart w0_row w0_can_3 w0_could) → va_S A s.heap H locs → W p l e (headSpec us_Mo_canGoOn rm_Mo_canGoOn).room s m ([.ref a0, .int p1] : List Value).toArray below meth c H locs 0 0 (MQ below (va_Qi (fun (r : Int32) (_ : Unit) => ret = r ∧ bz r) (fun _ t => PoS (dC, dI) (tyL cI cJ cG cZ) (wd_Mo_canGoOn cI cJ cG cZ a0 a0_from a0_to a0_near a0_lists a0_colours a0_shades a0_tints a0_attempt a0_taken a0_isApart a0_ways a0_next a0_splits a0_powers a0_row a0_many a0_can a0_could a0_arcRow a0_order a0_isOut v0_thrown v0_nodes v0_arcs v0_takenMany v0_leftBits v0_hasPolynomial v0_hasLists w0_near w0_lists w0_isApart w0_row o_w0_can o_w0_could) A t) A) ([.ref a0, .int p1] : List Value).toArray s 0 0 A) (F0 m 32 ls [.int s_60, .int x3_2, .ref a0_can]) := by
      intro s_60 ls H locs hm hl hP hD hS
      have hm := jn1 hJ_32 hm
      obtain ⟨hi_61, hm⟩ := gC_e hm
      refine va_zast hx hb hK hP hD hS 5 3 rfl rfl (inb_vp hi_61) d_Mo_canGoOn_32 (fun H locs hP hD hS => ?_)
      have hP : va_P (dC, dI) vwCl (wd_Mo_canGoOn cI cJ cG cZ a0 a0_from a0_to a0_near a0_lists a0_colours a0_shades a0_tints a0_attempt a0_taken a0_isApart a0_ways a0_next a0_splits a0_powers a0_row a0_many a0_can a0_could a0_arcRow a0_order a0_isOut v0_thrown v0_nodes v0_arcs v0_takenMany v0_leftBits v0_hasPolynomial v0_hasLists w0_near w0_lists w0_isApart w0_row (upd w0_can_3 x3_2.toNatClampNeg (vp_nar .boolean s_60)) w0_could) H := hP
      have hD : va_D A (wd_Mo_canGoOn cI cJ cG cZ a0 a0_from a0_to a0_near a0_lists a0_colours a0_shades a0_tints a0_attempt a0_taken a0_isApart a0_ways a0_next a0_splits a0_powers a0_row a0_many a0_can a0_could a0_arcRow a0_order a0_isOut v0_thrown v0_nodes v0_arcs v0_takenMany v0_leftBits v0_hasPolynomial v0_hasLists w0_near w0_lists w0_isApart w0_row (upd w0_can_3 x3_2.toNatClampNeg (vp_nar .boolean s_60)) w0_could) := hD
      obtain ⟨x3_62, ex3_62⟩ : ∃ y : Int32, y = x3_2 + 1 := ⟨_, rfl⟩
      have hm := gB_at ex3_62 hm
      refine lv_iinc (v := x3_62) (lv' := [(3, .int x3_62), (0, .ref a0), (1, .int p1), (2, .int x2_1)]) hx hb d_Mo_canGoOn_33 hl (k := 3) rfl (by rw [ex3_62]; rfl) (by decide) rfl (fun ls hl => ?_)
      refine lv_goto (tgt := 13) hx hb d_Mo_canGoOn_36 (by decide) ?_
      exact ih_13 _ hm _ _ rfl ls H locs (lv_sub hl [1, 2, 3, 0] rfl) hP hD hS
    clear hJ_32
    refine lv_if_ne (tgt := 31) hx hb d_Mo_canGoOn_24 (by decide) (fun c_63 => ?_) (fun c_63 => ?_)
    · have hm := ite_f c_63 hm
      refine lv_iconst (v := 0) hx hb d_Mo_canGoOn_31 (by decide) ?_
      exact jp_32 _ ls H locs hm (lv_sub hl [0, 1, 2, 3] rfl) hP hD hS
    · have hm := ite_t c_63 hm
      refine lv_iconst (v := 1) hx hb d_Mo_canGoOn_27 (by decide) ?_
      refine lv_goto (tgt := 32) hx hb d_Mo_canGoOn_28 (by decide) ?_
      exact jp_32 _ ls H locs hm (lv_sub hl [0, 1, 2, 3] rfl) hP hD hS
theorem d_Mo_lists_0 : decode prog_10_method_23_code 0 = .ok (.aload_n 0, 1) := by decide +kernel
theorem d_Mo_lists_1 : decode prog_10_method_23_code 1 = .ok (.iconst 0, 1) := by decide +kernel
theorem d_Mo_lists_2 : decode prog_10_method_23_code 2 = .ok (.putfield 79, 3) := by decide +kernel
theorem d_Mo_lists_5 : decode prog_10_method_23_code 5 = .ok (.aload_n 0, 1) := by decide +kernel
theorem d_Mo_lists_6 : decode prog_10_method_23_code 6 = .ok (.invokevirtual 127, 3) := by decide +kernel
theorem d_Mo_lists_9 : decode prog_10_method_23_code 9 = .ok (.aload_n 0, 1) := by decide +kernel
theorem d_Mo_lists_10 : decode prog_10_method_23_code 10 = .ok (.iconst 0, 1) := by decide +kernel
theorem d_Mo_lists_11 : decode prog_10_method_23_code 11 = .ok (.invokevirtual 133, 3) := by decide +kernel
theorem d_Mo_lists_14 : decode prog_10_method_23_code 14 = .ok (.istore_n 1, 1) := by decide +kernel
theorem d_Mo_lists_15 : decode prog_10_method_23_code 15 = .ok (.iconst 0, 1) := by decide +kernel
theorem d_Mo_lists_16 : decode prog_10_method_23_code 16 = .ok (.istore_n 2, 1) := by decide +kernel
theorem d_Mo_lists_17 : decode prog_10_method_23_code 17 = .ok (.iload_n 2, 1) := by decide +kernel
theorem d_Mo_lists_18 : decode prog_10_method_23_code 18 = .ok (.aload_n 0, 1) := by decide +kernel
theorem d_Mo_lists_19 : decode prog_10_method_23_code 19 = .ok (.getfield 86, 3) := by decide +kernel
theorem d_Mo_lists_22 : decode prog_10_method_23_code 22 = .ok (.if_icmp .ge 75, 3) := by decide +kernel
theorem d_Mo_lists_25 : decode prog_10_method_23_code 25 = .ok (.iload_n 1, 1) := by decide +kernel
theorem d_Mo_lists_26 : decode prog_10_method_23_code 26 = .ok (.ifCond .eq 71, 3) := by decide +kernel
theorem d_Mo_lists_29 : decode prog_10_method_23_code 29 = .ok (.aload_n 0, 1) := by decide +kernel
theorem d_Mo_lists_30 : decode prog_10_method_23_code 30 = .ok (.getfield 55, 3) := by decide +kernel
theorem d_Mo_lists_33 : decode prog_10_method_23_code 33 = .ok (.iload_n 2, 1) := by decide +kernel
theorem d_Mo_lists_34 : decode prog_10_method_23_code 34 = .ok (.iconst 0, 1) := by decide +kernel
theorem d_Mo_lists_35 : decode prog_10_method_23_code 35 = .ok (.iastore, 1) := by decide +kernel
theorem d_Mo_lists_36 : decode prog_10_method_23_code 36 = .ok (.aload_n 0, 1) := by decide +kernel
theorem d_Mo_lists_37 : decode prog_10_method_23_code 37 = .ok (.getfield 19, 3) := by decide +kernel
theorem d_Mo_lists_40 : decode prog_10_method_23_code 40 = .ok (.iload_n 2, 1) := by decide +kernel
theorem d_Mo_lists_41 : decode prog_10_method_23_code 41 = .ok (.iaload, 1) := by decide +kernel
theorem d_Mo_lists_42 : decode prog_10_method_23_code 42 = .ok (.aload_n 0, 1) := by decide +kernel
theorem d_Mo_lists_43 : decode prog_10_method_23_code 43 = .ok (.getfield 55, 3) := by decide +kernel
theorem d_Mo_lists_46 : decode prog_10_method_23_code 46 = .ok (.iload_n 2, 1) := by decide +kernel
theorem d_Mo_lists_47 : decode prog_10_method_23_code 47 = .ok (.iaload, 1) := by decide +kernel
theorem d_Mo_lists_48 : decode prog_10_method_23_code 48 = .ok (.ishr, 1) := by decide +kernel
theorem d_Mo_lists_49 : decode prog_10_method_23_code 49 = .ok (.iconst 1, 1) := by decide +kernel
theorem d_Mo_lists_50 : decode prog_10_method_23_code 50 = .ok (.iand, 1) := by decide +kernel
theorem d_Mo_lists_51 : decode prog_10_method_23_code 51 = .ok (.ifCond .eq 27, 3) := by decide +kernel
theorem d_Mo_lists_54 : decode prog_10_method_23_code 54 = .ok (.aload_n 0, 1) := by decide +kernel
theorem d_Mo_lists_55 : decode prog_10_method_23_code 55 = .ok (.iload_n 2, 1) := by decide +kernel
theorem d_Mo_lists_56 : decode prog_10_method_23_code 56 = .ok (.aload_n 0, 1) := by decide +kernel
theorem d_Mo_lists_57 : decode prog_10_method_23_code 57 = .ok (.getfield 55, 3) := by decide +kernel
theorem d_Mo_lists_60 : decode prog_10_method_23_code 60 = .ok (.iload_n 2, 1) := by decide +kernel
theorem d_Mo_lists_61 : decode prog_10_method_23_code 61 = .ok (.iaload, 1) := by decide +kernel
theorem d_Mo_lists_62 : decode prog_10_method_23_code 62 = .ok (.invokevirtual 102, 3) := by decide +kernel
theorem d_Mo_lists_65 : decode prog_10_method_23_code 65 = .ok (.ifCond .eq 13, 3) := by decide +kernel
theorem d_Mo_lists_68 : decode prog_10_method_23_code 68 = .ok (.aload_n 0, 1) := by decide +kernel
theorem d_Mo_lists_69 : decode prog_10_method_23_code 69 = .ok (.iload_n 2, 1) := by decide +kernel
theorem d_Mo_lists_70 : decode prog_10_method_23_code 70 = .ok (.iconst 1, 1) := by decide +kernel
theorem d_Mo_lists_71 : decode prog_10_method_23_code 71 = .ok (.iadd, 1) := by decide +kernel
theorem d_Mo_lists_72 : decode prog_10_method_23_code 72 = .ok (.invokevirtual 133, 3) := by decide +kernel
theorem d_Mo_lists_75 : decode prog_10_method_23_code 75 = .ok (.ifCond .ne 16, 3) := by decide +kernel
theorem d_Mo_lists_78 : decode prog_10_method_23_code 78 = .ok (.aload_n 0, 1) := by decide +kernel
theorem d_Mo_lists_79 : decode prog_10_method_23_code 79 = .ok (.getfield 55, 3) := by decide +kernel
theorem d_Mo_lists_82 : decode prog_10_method_23_code 82 = .ok (.iload_n 2, 1) := by decide +kernel
theorem d_Mo_lists_83 : decode prog_10_method_23_code 83 = .ok (.dup2, 1) := by decide +kernel
theorem d_Mo_lists_84 : decode prog_10_method_23_code 84 = .ok (.iaload, 1) := by decide +kernel
theorem d_Mo_lists_85 : decode prog_10_method_23_code 85 = .ok (.iconst 1, 1) := by decide +kernel
theorem d_Mo_lists_86 : decode prog_10_method_23_code 86 = .ok (.iadd, 1) := by decide +kernel
theorem d_Mo_lists_87 : decode prog_10_method_23_code 87 = .ok (.iastore, 1) := by decide +kernel
theorem d_Mo_lists_88 : decode prog_10_method_23_code 88 = .ok (.goto (-52), 3) := by decide +kernel
theorem d_Mo_lists_91 : decode prog_10_method_23_code 91 = .ok (.iinc 2 1, 3) := by decide +kernel
theorem d_Mo_lists_94 : decode prog_10_method_23_code 94 = .ok (.goto (-77), 3) := by decide +kernel
theorem d_Mo_lists_97 : decode prog_10_method_23_code 97 = .ok (.aload_n 0, 1) := by decide +kernel
theorem d_Mo_lists_98 : decode prog_10_method_23_code 98 = .ok (.iload_n 1, 1) := by decide +kernel
theorem d_Mo_lists_99 : decode prog_10_method_23_code 99 = .ok (.invokevirtual 116, 3) := by decide +kernel
theorem d_Mo_lists_102 : decode prog_10_method_23_code 102 = .ok (.iload_n 1, 1) := by decide +kernel
theorem d_Mo_lists_103 : decode prog_10_method_23_code 103 = .ok (.ifCond .eq 7, 3) := by decide +kernel
theorem d_Mo_lists_106 : decode prog_10_method_23_code 106 = .ok (.iconst 1, 1) := by decide +kernel
theorem d_Mo_lists_107 : decode prog_10_method_23_code 107 = .ok (.goto 4, 3) := by decide +kernel
theorem d_Mo_lists_110 : decode prog_10_method_23_code 110 = .ok (.iconst 0, 1) := by decide +kernel
theorem d_Mo_lists_111 : decode prog_10_method_23_code 111 = .ok (.ireturn, 1) := by decide +kernel
abbrev wd_Mo_lists (cI cJ cG cZ : ClassId) (a0 a0_from a0_to a0_near a0_lists a0_colours a0_shades a0_tints a0_attempt a0_taken a0_isApart a0_ways a0_next a0_splits a0_powers a0_row a0_many a0_can a0_could a0_arcRow a0_order a0_isOut : Nat) (v0_thrown : Int32) (v0_nodes : Int32) (v0_arcs : Int32) (v0_takenMany : Int32) (v0_leftBits : Int32) (v0_hasPolynomial : Int32) (v0_hasLists : Int32) (w0_near : Nat → Int32) (w0_lists : Nat → Int32) (w0_colours : Nat → Int32) (w0_isApart : Nat → Int32) (w0_row : Nat → Int32) (w0_can : Nat → Int32) (w0_could : Nat → Int32) : va_W := [(a0, .inr (8, [.int v0_thrown, .int v0_nodes, .int v0_arcs, .ref a0_from, .ref a0_to, .ref a0_near, .ref a0_lists, .ref a0_colours, .ref a0_shades, .ref a0_tints, .ref a0_attempt, .int v0_takenMany, .ref a0_taken, .int v0_leftBits, .ref a0_isApart, .ref a0_ways, .ref a0_next, .ref a0_splits, .ref a0_powers, .ref a0_row, .ref a0_many, .int v0_hasPolynomial, .int v0_hasLists, .ref a0_can, .ref a0_could, .ref a0_arcRow, .ref a0_order, .ref a0_isOut])), (a0_near, .inl (cI, 12, .inl w0_near)), (a0_lists, .inl (cI, 12, .inl w0_lists)), (a0_colours, .inl (cI, 12, .inl w0_colours)), (a0_isApart, .inl (cZ, 4096, .inl w0_isApart)), (a0_row, .inl (cI, 12, .inl w0_row)), (a0_can, .inl (cZ, 4096, .inl w0_can)), (a0_could, .inl (cZ, 4096, .inl w0_could))]
abbrev us_Mo_lists : List Cond := .code y_Mo_lists prog_10_method_23_code 3 (some .int) :: gtbl
abbrev rm_Mo_lists : Room := { frames := 1, cells := 0, slots := 0, locals := 27 }
def m_Mo_lists (F : Nat) (v0_thrown : Int32) (v0_nodes : Int32) (v0_arcs : Int32) (v0_takenMany : Int32) (v0_leftBits : Int32) (v0_hasPolynomial : Int32) (v0_hasLists : Int32) (w0_near : Nat → Int32) (w0_lists : Nat → Int32) (w0_colours : Nat → Int32) (w0_isApart : Nat → Int32) (w0_row : Nat → Int32) (w0_can : Nat → Int32) (w0_could : Nat → Int32) : Option (Int32 × Int32 × (Nat → Int32) × (Nat → Int32) × (Nat → Int32) × (Nat → Int32) × (Nat → Int32)) :=
  gM (m_Mo_sets F 0 v0_nodes v0_arcs v0_takenMany v0_leftBits v0_hasPolynomial v0_hasLists w0_near w0_isApart) (fun w0_isApart_1 =>
  gM (m_Mo_canGoOn F 0 v0_nodes v0_arcs v0_takenMany v0_leftBits v0_hasPolynomial v0_hasLists w0_near w0_lists w0_isApart_1 w0_row w0_can w0_could (0 : Int32)) (fun (z_7 : Int32 × (Nat → Int32) × (Nat → Int32)) => match z_7 with
  | (q_3, w0_can_4, w0_could_5) =>
  gL (fun (k_17 : (Int32 × (Nat → Int32) × (Nat → Int32) × (Nat → Int32)) → Option (Int32 × Int32 × (Nat → Int32) × (Nat → Int32) × (Nat → Int32) × (Nat → Int32) × (Nat → Int32))) (z_17 : Int32 × (Nat → Int32) × (Nat → Int32) × (Nat → Int32)) => match z_17 with
  | (x2_10, w0_row_11, w0_can_12, w0_could_13) =>
  gB (α := Option (Int32 × Int32 × (Nat → Int32) × (Nat → Int32) × (Nat → Int32) × (Nat → Int32) × (Nat → Int32))) (
    gM (m_Mo_keepColours F 0 v0_nodes v0_arcs v0_takenMany v0_leftBits v0_hasPolynomial v0_hasLists w0_colours w0_row_11 q_3) (fun w0_colours_14 =>
    if q_3 = 0 then (
      some (0, 0, w0_colours_14, w0_isApart_1, w0_row_11, w0_can_12, w0_could_13)
    ) else (
      some (1, 0, w0_colours_14, w0_isApart_1, w0_row_11, w0_can_12, w0_could_13)
    ))
  ) (fun J_97 =>
  if v0_nodes ≤ x2_10 then (
    J_97
  ) else (
    if q_3 = 0 then (
      J_97
    ) else (
      gC (inb x2_10 12) (
      gL (fun (k_36 : ((Nat → Int32) × (Nat → Int32) × (Nat → Int32)) → Option (Int32 × Int32 × (Nat → Int32) × (Nat → Int32) × (Nat → Int32) × (Nat → Int32) × (Nat → Int32))) (z_36 : (Nat → Int32) × (Nat → Int32) × (Nat → Int32)) => match z_36 with
      | (w0_row_20, w0_can_21, w0_could_22) =>
      gC (inb x2_10 12) (
      gC (inb x2_10 12) (
      gB (α := (Nat → Int32) → (Nat → Int32) → Option (Int32 × Int32 × (Nat → Int32) × (Nat → Int32) × (Nat → Int32) × (Nat → Int32) × (Nat → Int32))) (fun w0_can_25 w0_could_26 =>
        gC (inb x2_10 12) (
        gC (inb x2_10 12) (
        k_36 (upd w0_row_20 x2_10.toNatClampNeg ((w0_row_20 x2_10.toNatClampNeg) + 1), w0_can_25, w0_could_26)))
      ) (fun J_78 =>
      if (((w0_lists x2_10.toNatClampNeg) >>> ((w0_row_20 x2_10.toNatClampNeg) &&& 31)) &&& 1) = 0 then (
        J_78 w0_can_21 w0_could_22
      ) else (
        gC (inb x2_10 12) (
        gM (m_Mo_fits F 0 v0_nodes v0_arcs v0_takenMany v0_leftBits v0_hasPolynomial v0_hasLists w0_near w0_row_20 x2_10 (w0_row_20 x2_10.toNatClampNeg)) (fun q_31 =>
        if q_31 = 0 then (
          J_78 w0_can_21 w0_could_22
        ) else (
          gM (m_Mo_canGoOn F 0 v0_nodes v0_arcs v0_takenMany v0_leftBits v0_hasPolynomial v0_hasLists w0_near w0_lists w0_isApart_1 w0_row_20 w0_can_21 w0_could_22 (x2_10 + 1)) (fun (z_40 : Int32 × (Nat → Int32) × (Nat → Int32)) => match z_40 with
          | (q_36, w0_can_37, w0_could_38) =>
          if q_36 = 0 then (
            J_78 w0_can_37 w0_could_38
          ) else (
            gB (x2_10 + 1) (fun x2_44 =>
            k_17 (x2_44, w0_row_20, w0_can_37, w0_could_38))
          ))
        )))
      )
      )))
      ) F (upd w0_row_11 x2_10.toNatClampNeg 0, w0_can_12, w0_could_13))
    )
  )
  )
  ) F (0, w0_row, w0_can_4, w0_could_5)))
set_option maxHeartbeats 4000000 in
set_option maxRecDepth 100000 in
theorem c_Mo_lists (l : Launch) (dC : Nat → ClassId) (dI : Nat → Nat → Nat) (cI cJ cG cZ : ClassId) (a0 a0_from a0_to a0_near a0_lists a0_colours a0_shades a0_tints a0_attempt a0_taken a0_isApart a0_ways a0_next a0_splits a0_powers a0_row a0_many a0_can a0_could a0_arcRow a0_order a0_isOut : Nat) (sz : Nat) (F : Nat) (v0_thrown : Int32) (v0_nodes : Int32) (v0_arcs : Int32) (v0_takenMany : Int32) (v0_leftBits : Int32) (v0_hasPolynomial : Int32) (v0_hasLists : Int32) (w0_near : Nat → Int32) (w0_lists : Nat → Int32) (w0_colours : Nat → Int32) (w0_isApart : Nat → Int32) (w0_row : Nat → Int32) (w0_can : Nat → Int32) (w0_could : Nat → Int32) (ret : Int32) (o_v0_thrown : Int32) (o_w0_colours : Nat → Int32) (o_w0_isApart : Nat → Int32) (o_w0_row : Nat → Int32) (o_w0_can : Nat → Int32) (o_w0_could : Nat → Int32) (hm : m_Mo_lists F v0_thrown v0_nodes v0_arcs v0_takenMany v0_leftBits v0_hasPolynomial v0_hasLists w0_near w0_lists w0_colours w0_isApart w0_row w0_can w0_could = some (ret, o_v0_thrown, o_w0_colours, o_w0_isApart, o_w0_row, o_w0_can, o_w0_could)) : Met l y_Mo_lists us_Mo_lists rm_Mo_lists (PcS (dC, dI) (tyL cI cJ cG cZ) [.ref a0] sz (wd_Mo_lists cI cJ cG cZ a0 a0_from a0_to a0_near a0_lists a0_colours a0_shades a0_tints a0_attempt a0_taken a0_isApart a0_ways a0_next a0_splits a0_powers a0_row a0_many a0_can a0_could a0_arcRow a0_order a0_isOut v0_thrown v0_nodes v0_arcs v0_takenMany v0_leftBits v0_hasPolynomial v0_hasLists w0_near w0_lists w0_colours w0_isApart w0_row w0_can w0_could)) (va_Qi (fun (r : Int32) (_ : Unit) => ret = r) (fun _ t => PoS (dC, dI) (tyL cI cJ cG cZ) (wd_Mo_lists cI cJ cG cZ a0 a0_from a0_to a0_near a0_lists a0_colours a0_shades a0_tints a0_attempt a0_taken a0_isApart a0_ways a0_next a0_splits a0_powers a0_row a0_many a0_can a0_could a0_arcRow a0_order a0_isOut o_v0_thrown v0_nodes v0_arcs v0_takenMany v0_leftBits v0_hasPolynomial v0_hasLists w0_near w0_lists o_w0_colours o_w0_isApart o_w0_row o_w0_can o_w0_could) (va_A (wd_Mo_lists cI cJ cG cZ a0 a0_from a0_to a0_near a0_lists a0_colours a0_shades a0_tints a0_attempt a0_taken a0_isApart a0_ways a0_next a0_splits a0_powers a0_row a0_many a0_can a0_could a0_arcRow a0_order a0_isOut v0_thrown v0_nodes v0_arcs v0_takenMany v0_leftBits v0_hasPolynomial v0_hasLists w0_near w0_lists w0_colours w0_isApart w0_row w0_can w0_could) sz) t) (va_A (wd_Mo_lists cI cJ cG cZ a0 a0_from a0_to a0_near a0_lists a0_colours a0_shades a0_tints a0_attempt a0_taken a0_isApart a0_ways a0_next a0_splits a0_powers a0_row a0_many a0_can a0_could a0_arcRow a0_order a0_isOut v0_thrown v0_nodes v0_arcs v0_takenMany v0_leftBits v0_hasPolynomial v0_hasLists w0_near w0_lists w0_colours w0_isApart w0_row w0_can w0_could) sz)) 0 0 (va_A (wd_Mo_lists cI cJ cG cZ a0 a0_from a0_to a0_near a0_lists a0_colours a0_shades a0_tints a0_attempt a0_taken a0_isApart a0_ways a0_next a0_splits a0_powers a0_row a0_many a0_can a0_could a0_arcRow a0_order a0_isOut v0_thrown v0_nodes v0_arcs v0_takenMany v0_leftBits v0_hasPolynomial v0_hasLists w0_near w0_lists w0_colours w0_isApart w0_row w0_can w0_could) sz) := by
  refine Met.ofW (cc := prog_10_method_23_code) (maxL := 3) (ret := (some .int)) (by decide) rfl ?_
  intro p e s m args below meth c s₁ B hml hv
  obtain ⟨rfl, hsz, hP, hK, hD0, hNw⟩ := hv
  have hx := B.exec
  have hb := B.bytes
  have hr := B.returns
  have htt : ∀ w ∈ gtbl, w.before _ s = true := fun w h => atoms_spec (ws := us_Mo_lists) B.pre w (List.mem_cons_of_mem _ h)
  have hown : s.vm.findClass R_Mo = some m.cls := findClass_of_methodNamed B.named
  have hlocks := B.notSynchronized
  subst hsz
  have hD := hD0.self (sz := s.heap.size)
  generalize hAe : va_A (wd_Mo_lists cI cJ cG cZ a0 a0_from a0_to a0_near a0_lists a0_colours a0_shades a0_tints a0_attempt a0_taken a0_isApart a0_ways a0_next a0_splits a0_powers a0_row a0_many a0_can a0_could a0_arcRow a0_order a0_isOut v0_thrown v0_nodes v0_arcs v0_takenMany v0_leftBits v0_hasPolynomial v0_hasLists w0_near w0_lists w0_colours w0_isApart w0_row w0_can w0_could) s.heap.size = A at hD ⊢
  have hA : ∀ q : Nat, s.heap.size ≤ q → A q := fun q h => by rw [← hAe]; exact Or.inr h
  clear hAe hD0
  have hS : va_S A s.heap s.heap [] := va_S.rf
  have hl := lv_entry ([.ref a0]) (n := 3) (Nat.le_of_ble_eq_true rfl)
  rw [lg_entry_eq]
  generalize (lg_sl ([.ref a0]) ++ List.replicate (3 - (lg_sl ([.ref a0])).length) Slot.unset).toArray = ls at hl ⊢
  have hl : lv_has ls 3 [(0, .ref a0)] := hl
  generalize hH : s.heap = H at hP ⊢
  have hS : va_S A s.heap H [] := hH ▸ hS
  generalize hLo : ([] : List Loc) = locs at hS ⊢
  clear hH hLo
  unfold m_Mo_lists at hm
  refine lv_aload_n hx hb d_Mo_lists_0 rfl (lv_at hl 0 rfl) ?_
  refine lv_iconst (v := 0) hx hb d_Mo_lists_1 (by decide) ?_
  refine va_put (D := (dC, dI)) (ci := 8) (v := .int 0) (ty := .int) (C := R_Mo) (T := T_Mo) (N := 28) hx hb htt hin_Mo ty_Mo tyok_Mo nm_Mo hown hK hP hD hS 0 rfl rfl 0 (by decide) (htt _ kt_769) (fun _ h9 => h9) rfl (by decide +kernel) rfl rfl (Nat.le_of_ble_eq_true rfl) d_Mo_lists_2 (fun H locs hP hD hS => ?_)
  have hP : va_P (dC, dI) vwCl (wd_Mo_lists cI cJ cG cZ a0 a0_from a0_to a0_near a0_lists a0_colours a0_shades a0_tints a0_attempt a0_taken a0_isApart a0_ways a0_next a0_splits a0_powers a0_row a0_many a0_can a0_could a0_arcRow a0_order a0_isOut 0 v0_nodes v0_arcs v0_takenMany v0_leftBits v0_hasPolynomial v0_hasLists w0_near w0_lists w0_colours w0_isApart w0_row w0_can w0_could) H := hP
  have hD : va_D A (wd_Mo_lists cI cJ cG cZ a0 a0_from a0_to a0_near a0_lists a0_colours a0_shades a0_tints a0_attempt a0_taken a0_isApart a0_ways a0_next a0_splits a0_powers a0_row a0_many a0_can a0_could a0_arcRow a0_order a0_isOut 0 v0_nodes v0_arcs v0_takenMany v0_leftBits v0_hasPolynomial v0_hasLists w0_near w0_lists w0_colours w0_isApart w0_row w0_can w0_could) := hD
  refine lv_aload_n hx hb d_Mo_lists_5 rfl (lv_at hl 0 rfl) ?_
  obtain ⟨w0_isApart_1, hc_2, hm⟩ := gM_e hm
  have hPc : va_P (dC, dI) vwCl (wd_Mo_sets cI cJ cG cZ a0 a0_from a0_to a0_near a0_lists a0_colours a0_shades a0_tints a0_attempt a0_taken a0_isApart a0_ways a0_next a0_splits a0_powers a0_row a0_many a0_can a0_could a0_arcRow a0_order a0_isOut 0 v0_nodes v0_arcs v0_takenMany v0_leftBits v0_hasPolynomial v0_hasLists w0_near w0_isApart) H := hP.sub [0, 1, 4] rfl
  have hDc : va_D A (wd_Mo_sets cI cJ cG cZ a0 a0_from a0_to a0_near a0_lists a0_colours a0_shades a0_tints a0_attempt a0_taken a0_isApart a0_ways a0_next a0_splits a0_powers a0_row a0_many a0_can a0_could a0_arcRow a0_order a0_isOut 0 v0_nodes v0_arcs v0_takenMany v0_leftBits v0_hasPolynomial v0_hasLists w0_near w0_isApart) := hD.sub [0, 1, 4] (by decide) rfl
  have hFc : ∀ q, va_A (wd_Mo_sets cI cJ cG cZ a0 a0_from a0_to a0_near a0_lists a0_colours a0_shades a0_tints a0_attempt a0_taken a0_isApart a0_ways a0_next a0_splits a0_powers a0_row a0_many a0_can a0_could a0_arcRow a0_order a0_isOut 0 v0_nodes v0_arcs v0_takenMany v0_leftBits v0_hasPolynomial v0_hasLists w0_near w0_isApart) H.size q → A q := va_free hD hS hA [0, 1, 4] rfl
  refine va_callv (va_runV (As := []) (rest := []) ⟨hx, hb, hml, hown, htt⟩ (c_Mo_sets l dC dI cI cJ cG cZ a0 a0_from a0_to a0_near a0_lists a0_colours a0_shades a0_tints a0_attempt a0_taken a0_isApart a0_ways a0_next a0_splits a0_powers a0_row a0_many a0_can a0_could a0_arcRow a0_order a0_isOut H.size F 0 v0_nodes v0_arcs v0_takenMany v0_leftBits v0_hasPolynomial v0_hasLists w0_near w0_isApart w0_isApart_1 hc_2) (cwV 0 htt (gdV kt_916 kt_918 kp_50 kt_10 kt_919) rfl rfl rfl (by decide +kernel) ⟨(Nat.le_of_ble_eq_true rfl), (Nat.le_of_ble_eq_true rfl)⟩) ⟨PcS_blind, va_recv hK hPc (ci := 8) (q0 := 0) rfl rfl, PcS_in hPc hK hDc hNw⟩ rfl rfl hl.1 rfl (lv_room (Nat.le_of_ble_eq_true rfl)) d_Mo_lists_6 ⟨Nat.zero_le _, Nat.zero_le _⟩) hS (fun q _ h => hFc q h) hFc (fun u t H1 locs ht hvm hw hB hz1 hk1 hS => ?_)
  obtain ⟨hP1, hK1, hD1⟩ := hB
  rw [ht] at hP1
  obtain ⟨hP, hD⟩ := va_join (wr := [(a0_lists, .inl (cI, 12, .inl w0_lists)), (a0_colours, .inl (cI, 12, .inl w0_colours)), (a0_row, .inl (cI, 12, .inl w0_row)), (a0_can, .inl (cZ, 4096, .inl w0_can)), (a0_could, .inl (cZ, 4096, .inl w0_could))]) (w1 := (wd_Mo_sets cI cJ cG cZ a0 a0_from a0_to a0_near a0_lists a0_colours a0_shades a0_tints a0_attempt a0_taken a0_isApart a0_ways a0_next a0_splits a0_powers a0_row a0_many a0_can a0_could a0_arcRow a0_order a0_isOut 0 v0_nodes v0_arcs v0_takenMany v0_leftBits v0_hasPolynomial v0_hasLists w0_near w0_isApart_1)) hP hD [0, 1, 4] [2, 3, 5, 6, 7] rfl rfl (by decide) (by decide) hk1 hFc hP1 hD1
  have hP : va_P (dC, dI) vwCl (wd_Mo_lists cI cJ cG cZ a0 a0_from a0_to a0_near a0_lists a0_colours a0_shades a0_tints a0_attempt a0_taken a0_isApart a0_ways a0_next a0_splits a0_powers a0_row a0_many a0_can a0_could a0_arcRow a0_order a0_isOut 0 v0_nodes v0_arcs v0_takenMany v0_leftBits v0_hasPolynomial v0_hasLists w0_near w0_lists w0_colours w0_isApart_1 w0_row w0_can w0_could) H1 := hP.sub [5, 6, 0, 1, 7, 2, 3, 4] rfl
  have hD : va_D A (wd_Mo_lists cI cJ cG cZ a0 a0_from a0_to a0_near a0_lists a0_colours a0_shades a0_tints a0_attempt a0_taken a0_isApart a0_ways a0_next a0_splits a0_powers a0_row a0_many a0_can a0_could a0_arcRow a0_order a0_isOut 0 v0_nodes v0_arcs v0_takenMany v0_leftBits v0_hasPolynomial v0_hasLists w0_near w0_lists w0_colours w0_isApart_1 w0_row w0_can w0_could) := hD.sub [5, 6, 0, 1, 7, 2, 3, 4] (by decide) rfl
  clear hP1 hK1 hD1 hk1 hPc hDc hFc ht hvm hz1
  generalize H1 = H at hP hS ⊢
  refine lv_aload_n hx hb d_Mo_lists_9 rfl (lv_at hl 0 rfl) ?_
  refine lv_iconst (v := 0) hx hb d_Mo_lists_10 (by decide) ?_
  obtain ⟨⟨q_3, w0_can_4, w0_could_5⟩, hc_6, hm⟩ := gM_e hm
  dsimp only at hm
  have hPc : va_P (dC, dI) vwCl (wd_Mo_canGoOn cI cJ cG cZ a0 a0_from a0_to a0_near a0_lists a0_colours a0_shades a0_tints a0_attempt a0_taken a0_isApart a0_ways a0_next a0_splits a0_powers a0_row a0_many a0_can a0_could a0_arcRow a0_order a0_isOut 0 v0_nodes v0_arcs v0_takenMany v0_leftBits v0_hasPolynomial v0_hasLists w0_near w0_lists w0_isApart_1 w0_row w0_can w0_could) H := hP.sub [0, 1, 2, 4, 5, 6, 7] rfl
  have hDc : va_D A (wd_Mo_canGoOn cI cJ cG cZ a0 a0_from a0_to a0_near a0_lists a0_colours a0_shades a0_tints a0_attempt a0_taken a0_isApart a0_ways a0_next a0_splits a0_powers a0_row a0_many a0_can a0_could a0_arcRow a0_order a0_isOut 0 v0_nodes v0_arcs v0_takenMany v0_leftBits v0_hasPolynomial v0_hasLists w0_near w0_lists w0_isApart_1 w0_row w0_can w0_could) := hD.sub [0, 1, 2, 4, 5, 6, 7] (by decide) rfl
  have hFc : ∀ q, va_A (wd_Mo_canGoOn cI cJ cG cZ a0 a0_from a0_to a0_near a0_lists a0_colours a0_shades a0_tints a0_attempt a0_taken a0_isApart a0_ways a0_next a0_splits a0_powers a0_row a0_many a0_can a0_could a0_arcRow a0_order a0_isOut 0 v0_nodes v0_arcs v0_takenMany v0_leftBits v0_hasPolynomial v0_hasLists w0_near w0_lists w0_isApart_1 w0_row w0_can w0_could) H.size q → A q := va_free hD hS hA [0, 1, 2, 4, 5, 6, 7] rfl
  refine va_calli (va_runV (As := [.int 0]) (rest := []) ⟨hx, hb, hml, hown, htt⟩ (c_Mo_canGoOn l dC dI cI cJ cG cZ a0 a0_from a0_to a0_near a0_lists a0_colours a0_shades a0_tints a0_attempt a0_taken a0_isApart a0_ways a0_next a0_splits a0_powers a0_row a0_many a0_can a0_could a0_arcRow a0_order a0_isOut H.size F 0 v0_nodes v0_arcs v0_takenMany v0_leftBits v0_hasPolynomial v0_hasLists w0_near w0_lists w0_isApart_1 w0_row w0_can w0_could (0 : Int32) q_3 w0_can_4 w0_could_5 hc_6) (cwV 1 htt (gdV kt_932 kt_934 kp_51 kt_10 kt_935) rfl rfl rfl (by decide +kernel) ⟨(Nat.le_of_ble_eq_true rfl), (Nat.le_of_ble_eq_true rfl)⟩) ⟨PcS_blind, va_recv hK hPc (ci := 8) (q0 := 0) rfl rfl, PcS_in hPc hK hDc hNw⟩ rfl rfl hl.1 rfl (lv_room (Nat.le_of_ble_eq_true rfl)) d_Mo_lists_11 ⟨Nat.zero_le _, Nat.zero_le _⟩) hS (fun q _ h => hFc q h) hFc (fun r_8 u t H1 locs ht hvm hw hB hz1 hk1 hS => ?_)
  obtain ⟨hP1, hK1, hD1⟩ := hB
  rw [ht] at hP1
  obtain ⟨hw, hz_9⟩ := hw
  subst hw
  obtain ⟨hP, hD⟩ := va_join (wr := [(a0_colours, .inl (cI, 12, .inl w0_colours))]) (w1 := (wd_Mo_canGoOn cI cJ cG cZ a0 a0_from a0_to a0_near a0_lists a0_colours a0_shades a0_tints a0_attempt a0_taken a0_isApart a0_ways a0_next a0_splits a0_powers a0_row a0_many a0_can a0_could a0_arcRow a0_order a0_isOut 0 v0_nodes v0_arcs v0_takenMany v0_leftBits v0_hasPolynomial v0_hasLists w0_near w0_lists w0_isApart_1 w0_row w0_can_4 w0_could_5)) hP hD [0, 1, 2, 4, 5, 6, 7] [3] rfl rfl (by decide) (by decide) hk1 hFc hP1 hD1
  have hP : va_P (dC, dI) vwCl (wd_Mo_lists cI cJ cG cZ a0 a0_from a0_to a0_near a0_lists a0_colours a0_shades a0_tints a0_attempt a0_taken a0_isApart a0_ways a0_next a0_splits a0_powers a0_row a0_many a0_can a0_could a0_arcRow a0_order a0_isOut 0 v0_nodes v0_arcs v0_takenMany v0_leftBits v0_hasPolynomial v0_hasLists w0_near w0_lists w0_colours w0_isApart_1 w0_row w0_can_4 w0_could_5) H1 := hP.sub [1, 2, 3, 0, 4, 5, 6, 7] rfl
  have hD : va_D A (wd_Mo_lists cI cJ cG cZ a0 a0_from a0_to a0_near a0_lists a0_colours a0_shades a0_tints a0_attempt a0_taken a0_isApart a0_ways a0_next a0_splits a0_powers a0_row a0_many a0_can a0_could a0_arcRow a0_order a0_isOut 0 v0_nodes v0_arcs v0_takenMany v0_leftBits v0_hasPolynomial v0_hasLists w0_near w0_lists w0_colours w0_isApart_1 w0_row w0_can_4 w0_could_5) := hD.sub [1, 2, 3, 0, 4, 5, 6, 7] (by decide) rfl
  clear hP1 hK1 hD1 hk1 hPc hDc hFc ht hvm hz1
  generalize H1 = H at hP hS ⊢
  refine lv_istore_n (lv' := [(1, .int q_3), (0, .ref a0)]) hx hb d_Mo_lists_14 rfl hl (by decide) rfl (fun ls hl => ?_)
  refine lv_iconst (v := 0) hx hb d_Mo_lists_15 (by decide) ?_
  refine lv_istore_n (lv' := [(2, .int 0), (1, .int q_3), (0, .ref a0)]) hx hb d_Mo_lists_16 rfl hl (by decide) rfl (fun ls hl => ?_)
  refine gL_e (P := (fun (z_17 : Int32 × (Nat → Int32) × (Nat → Int32) × (Nat → Int32)) => ∀ (x2_10 : Int32), ∀ (w0_row_11 : Nat → Int32), ∀ (w0_can_12 : Nat → Int32), ∀ (w0_could_13 : Nat → Int32), z_17 = (x2_10, w0_row_11, w0_can_12, w0_could_13) → ∀ (ls : Array Slot) (H : Heap) (locs : List Loc), lv_has ls 3 [(0, .ref a0), (1, .int q_3), (2, .int x2_10)] → va_P (dC, dI) vwCl (wd_Mo_lists cI cJ cG cZ a0 a0_from a0_to a0_near a0_lists a0_colours a0_shades a0_tints a0_attempt a0_taken a0_isApart a0_ways a0_next a0_splits a0_powers a0_row a0_many a0_can a0_could a0_arcRow a0_order a0_isOut 0 v0_nodes v0_arcs v0_takenMany v0_leftBits v0_hasPolynomial v0_hasLists w0_near w0_lists w0_colours w0_isApart_1 w0_row_11 w0_can_12 w0_could_13) H → va_D A (wd_Mo_lists cI cJ cG cZ a0 a0_from a0_to a0_near a0_lists a0_colours a0_shades a0_tints a0_attempt a0_taken a0_isApart a0_ways a0_next a0_splits a0_powers a0_row a0_many a0_can a0_could a0_arcRow a0_order a0_isOut 0 v0_nodes v0_arcs v0_takenMany v0_leftBits v0_hasPolynomial v0_hasLists w0_near w0_lists w0_colours w0_isApart_1 w0_row_11 w0_can_12 w0_could_13) → va_S A s.heap H locs → W p l e (headSpec us_Mo_lists rm_Mo_lists).room s m ([.ref a0] : List Value).toArray below meth c H locs 0 0 (MQ below (va_Qi (fun (r : Int32) (_ : Unit) => ret = r) (fun _ t => PoS (dC, dI) (tyL cI cJ cG cZ) (wd_Mo_lists cI cJ cG cZ a0 a0_from a0_to a0_near a0_lists a0_colours a0_shades a0_tints a0_attempt a0_taken a0_isApart a0_ways a0_next a0_splits a0_powers a0_row a0_many a0_can a0_could a0_arcRow a0_order a0_isOut o_v0_thrown v0_nodes v0_arcs v0_takenMany v0_leftBits v0_hasPolynomial v0_hasLists w0_near w0_lists o_w0_colours o_w0_isApart o_w0_row o_w0_can o_w0_could) A t) A) ([.ref a0] : List Value).toArray s 0 0 A) (F0 m 17 ls []))) hm (fun k_17 z_17 ih_17 hm => ?_) _ _ _ _ rfl ls H locs (lv_sub hl [2, 1, 0] rfl) hP hD hS
  intro x2_10 w0_row_11 w0_can_12 w0_could_13 hz ls H locs hl hP hD hS
  subst hz
  dsimp only at hm
  refine lv_iload_n hx hb d_Mo_lists_17 rfl (lv_at hl 2 rfl) ?_
  refine lv_aload_n hx hb d_Mo_lists_18 rfl (lv_at hl 0 rfl) ?_
  refine va_get (D := (dC, dI)) (ci := 8) (v := .int v0_nodes) (C := R_Mo) (T := T_Mo) (N := 28) hx hb htt hin_Mo hown hK hP 0 rfl rfl 1 (by decide) (htt _ kt_770) (fun _ h9 => h9) rfl d_Mo_lists_19 ?_
  obtain ⟨J_97, hJ_97, hm⟩ := gB_x hm
  have jp_97 : ∀ (ls : Array Slot) (H : Heap) (locs : List Loc), J_97 = some (ret, o_v0_thrown, o_w0_colours, o_w0_isApart, o_w0_row, o_w0_can, o_w0_could) → lv_has ls 3 [(0, .ref a0), (1, .int q_3)] → va_P (dC, dI) vwCl (wd_Mo_lists cI cJ cG cZ a0 a0_from a0_to a0_near a0_lists a0_colours a0_shades a0_tints a0_attempt a0_taken a0_isApart a0_ways a0_next a0_splits a0_powers a0_row a0_many a0_can a0_could a0_arcRow a0_order a0_isOut 0 v0_nodes v0_arcs v0_takenMany v0_leftBits v0_hasPolynomial v0_hasLists w0_near w0_lists w0_colours w0_isApart_1 w0_row_11 w0_can_12 w0_could_13) H → va_D A (wd_Mo_lists cI cJ cG cZ a0 a0_from a0_to a0_near a0_lists a0_colours a0_shades a0_tints a0_attempt a0_taken a0_isApart a0_ways a0_next a0_splits a0_powers a0_row a0_many a0_can a0_could a0_arcRow a0_order a0_isOut 0 v0_nodes v0_arcs v0_takenMany v0_leftBits v0_hasPolynomial v0_hasLists w0_near w0_lists w0_colours w0_isApart_1 w0_row_11 w0_can_12 w0_could_13) → va_S A s.heap H locs → W p l e (headSpec us_Mo_lists rm_Mo_lists).room s m ([.ref a0] : List Value).toArray below meth c H locs 0 0 (MQ below (va_Qi (fun (r : Int32) (_ : Unit) => ret = r) (fun _ t => PoS (dC, dI) (tyL cI cJ cG cZ) (wd_Mo_lists cI cJ cG cZ a0 a0_from a0_to a0_near a0_lists a0_colours a0_shades a0_tints a0_attempt a0_taken a0_isApart a0_ways a0_next a0_splits a0_powers a0_row a0_many a0_can a0_could a0_arcRow a0_order a0_isOut o_v0_thrown v0_nodes v0_arcs v0_takenMany v0_leftBits v0_hasPolynomial v0_hasLists w0_near w0_lists o_w0_colours o_w0_isApart o_w0_row o_w0_can o_w0_could) A t) A) ([.ref a0] : List Value).toArray s 0 0 A) (F0 m 97 ls []) := by
    intro ls H locs hm hl hP hD hS
    have hm := jn0 hJ_97 hm
    refine lv_aload_n hx hb d_Mo_lists_97 rfl (lv_at hl 0 rfl) ?_
    refine lv_iload_n hx hb d_Mo_lists_98 rfl (lv_at hl 1 rfl) ?_
    obtain ⟨w0_colours_14, hc_15, hm⟩ := gM_e hm
    have hPc : va_P (dC, dI) vwCl (wd_Mo_keepColours cI cJ cG cZ a0 a0_from a0_to a0_near a0_lists a0_colours a0_shades a0_tints a0_attempt a0_taken a0_isApart a0_ways a0_next a0_splits a0_powers a0_row a0_many a0_can a0_could a0_arcRow a0_order a0_isOut 0 v0_nodes v0_arcs v0_takenMany v0_leftBits v0_hasPolynomial v0_hasLists w0_colours w0_row_11) H := hP.sub [0, 3, 5] rfl
    have hDc : va_D A (wd_Mo_keepColours cI cJ cG cZ a0 a0_from a0_to a0_near a0_lists a0_colours a0_shades a0_tints a0_attempt a0_taken a0_isApart a0_ways a0_next a0_splits a0_powers a0_row a0_many a0_can a0_could a0_arcRow a0_order a0_isOut 0 v0_nodes v0_arcs v0_takenMany v0_leftBits v0_hasPolynomial v0_hasLists w0_colours w0_row_11) := hD.sub [0, 3, 5] (by decide) rfl
    have hFc : ∀ q, va_A (wd_Mo_keepColours cI cJ cG cZ a0 a0_from a0_to a0_near a0_lists a0_colours a0_shades a0_tints a0_attempt a0_taken a0_isApart a0_ways a0_next a0_splits a0_powers a0_row a0_many a0_can a0_could a0_arcRow a0_order a0_isOut 0 v0_nodes v0_arcs v0_takenMany v0_leftBits v0_hasPolynomial v0_hasLists w0_colours w0_row_11) H.size q → A q := va_free hD hS hA [0, 3, 5] rfl
    refine va_callv (va_runV (As := [.int q_3]) (rest := []) ⟨hx, hb, hml, hown, htt⟩ (c_Mo_keepColours l dC dI cI cJ cG cZ a0 a0_from a0_to a0_near a0_lists a0_colours a0_shades a0_tints a0_attempt a0_taken a0_isApart a0_ways a0_next a0_splits a0_powers a0_row a0_many a0_can a0_could a0_arcRow a0_order a0_isOut H.size F 0 v0_nodes v0_arcs v0_takenMany v0_leftBits v0_hasPolynomial v0_hasLists w0_colours w0_row_11 q_3 w0_colours_14 hc_15) (cwV 1 htt (gdV kt_896 kt_898 kp_48 kt_10 kt_899) rfl rfl rfl (by decide +kernel) ⟨(Nat.le_of_ble_eq_true rfl), (Nat.le_of_ble_eq_true rfl)⟩) ⟨PcS_blind, va_recv hK hPc (ci := 8) (q0 := 0) rfl rfl, PcS_in hPc hK hDc hNw⟩ rfl rfl hl.1 rfl (lv_room (Nat.le_of_ble_eq_true rfl)) d_Mo_lists_99 ⟨Nat.zero_le _, Nat.zero_le _⟩) hS (fun q _ h => hFc q h) hFc (fun u t H1 locs ht hvm hw hB hz1 hk1 hS => ?_)
    obtain ⟨hP1, hK1, hD1⟩ := hB
    rw [ht] at hP1
    obtain ⟨hP, hD⟩ := va_join (wr := [(a0_near, .inl (cI, 12, .inl w0_near)), (a0_lists, .inl (cI, 12, .inl w0_lists)), (a0_isApart, .inl (cZ, 4096, .inl w0_isApart_1)), (a0_can, .inl (cZ, 4096, .inl w0_can_12)), (a0_could, .inl (cZ, 4096, .inl w0_could_13))]) (w1 := (wd_Mo_keepColours cI cJ cG cZ a0 a0_from a0_to a0_near a0_lists a0_colours a0_shades a0_tints a0_attempt a0_taken a0_isApart a0_ways a0_next a0_splits a0_powers a0_row a0_many a0_can a0_could a0_arcRow a0_order a0_isOut 0 v0_nodes v0_arcs v0_takenMany v0_leftBits v0_hasPolynomial v0_hasLists w0_colours_14 w0_row_11)) hP hD [0, 3, 5] [1, 2, 4, 6, 7] rfl rfl (by decide) (by decide) hk1 hFc hP1 hD1
    have hP : va_P (dC, dI) vwCl (wd_Mo_lists cI cJ cG cZ a0 a0_from a0_to a0_near a0_lists a0_colours a0_shades a0_tints a0_attempt a0_taken a0_isApart a0_ways a0_next a0_splits a0_powers a0_row a0_many a0_can a0_could a0_arcRow a0_order a0_isOut 0 v0_nodes v0_arcs v0_takenMany v0_leftBits v0_hasPolynomial v0_hasLists w0_near w0_lists w0_colours_14 w0_isApart_1 w0_row_11 w0_can_12 w0_could_13) H1 := hP.sub [5, 0, 1, 6, 2, 7, 3, 4] rfl
    have hD : va_D A (wd_Mo_lists cI cJ cG cZ a0 a0_from a0_to a0_near a0_lists a0_colours a0_shades a0_tints a0_attempt a0_taken a0_isApart a0_ways a0_next a0_splits a0_powers a0_row a0_many a0_can a0_could a0_arcRow a0_order a0_isOut 0 v0_nodes v0_arcs v0_takenMany v0_leftBits v0_hasPolynomial v0_hasLists w0_near w0_lists w0_colours_14 w0_isApart_1 w0_row_11 w0_can_12 w0_could_13) := hD.sub [5, 0, 1, 6, 2, 7, 3, 4] (by decide) rfl
    clear hP1 hK1 hD1 hk1 hPc hDc hFc ht hvm hz1
    generalize H1 = H at hP hS ⊢
    refine lv_iload_n hx hb d_Mo_lists_102 rfl (lv_at hl 1 rfl) ?_
    refine lv_if_eq (tgt := 110) hx hb d_Mo_lists_103 (by decide) (fun c_16 => ?_) (fun c_16 => ?_)
    · have hm := ite_t c_16 hm
      refine lv_iconst (v := 0) hx hb d_Mo_lists_110 (by decide) ?_
      cases hm
      exact W.iret hx hb hr (fun t ht hW => ⟨⟨_, (), rfl, rfl, by rw [ht]; exact hP, va_K.moved hW.alike hK, hD⟩, hS.F ht⟩) hS.2.2 d_Mo_lists_111
    · have hm := ite_f c_16 hm
      refine lv_iconst (v := 1) hx hb d_Mo_lists_106 (by decide) ?_
      refine lv_goto (tgt := 111) hx hb d_Mo_lists_107 (by decide) ?_
      cases hm
      exact W.iret hx hb hr (fun t ht hW => ⟨⟨_, (), rfl, rfl, by rw [ht]; exact hP, va_K.moved hW.alike hK, hD⟩, hS.F ht⟩) hS.2.2 d_Mo_lists_111
  clear hJ_97
  refine lv_icmp_ge (tgt := 97) hx hb d_Mo_lists_22 (by decide) (fun c_17 => ?_) (fun c_17 => ?_)
  · have hm := ite_t c_17 hm
    exact jp_97 ls H locs hm (lv_sub hl [0, 1] rfl) hP hD hS
  · have hm := ite_f c_17 hm
    refine lv_iload_n hx hb d_Mo_lists_25 rfl (lv_at hl 1 rfl) ?_
    refine lv_if_eq (tgt := 97) hx hb d_Mo_lists_26 (by decide) (fun c_18 => ?_) (fun c_18 => ?_)
    · have hm := ite_t c_18 hm
      exact jp_97 ls H locs hm (lv_sub hl [0, 1] rfl) hP hD hS
    · have hm := ite_f c_18 hm
      refine lv_aload_n hx hb d_Mo_lists_29 rfl (lv_at hl 0 rfl) ?_
      refine va_get (D := (dC, dI)) (ci := 8) (v := .ref a0_row) (C := R_Mo) (T := T_Mo) (N := 28) hx hb htt hin_Mo hown hK hP 0 rfl rfl 19 (by decide) (htt _ kt_788) (fun _ h9 => h9) rfl d_Mo_lists_30 ?_
      refine lv_iload_n hx hb d_Mo_lists_33 rfl (lv_at hl 2 rfl) ?_
      refine lv_iconst (v := 0) hx hb d_Mo_lists_34 (by decide) ?_
      obtain ⟨hi_19, hm⟩ := gC_e hm
      refine va_iast hx hb hK hP hD hS 5 0 rfl rfl (inb_vp hi_19) d_Mo_lists_35 (fun H locs hP hD hS => ?_)
      have hP : va_P (dC, dI) vwCl (wd_Mo_lists cI cJ cG cZ a0 a0_from a0_to a0_near a0_lists a0_colours a0_shades a0_tints a0_attempt a0_taken a0_isApart a0_ways a0_next a0_splits a0_powers a0_row a0_many a0_can a0_could a0_arcRow a0_order a0_isOut 0 v0_nodes v0_arcs v0_takenMany v0_leftBits v0_hasPolynomial v0_hasLists w0_near w0_lists w0_colours w0_isApart_1 (upd w0_row_11 x2_10.toNatClampNeg 0) w0_can_12 w0_could_13) H := hP
      have hD : va_D A (wd_Mo_lists cI cJ cG cZ a0 a0_from a0_to a0_near a0_lists a0_colours a0_shades a0_tints a0_attempt a0_taken a0_isApart a0_ways a0_next a0_splits a0_powers a0_row a0_many a0_can a0_could a0_arcRow a0_order a0_isOut 0 v0_nodes v0_arcs v0_takenMany v0_leftBits v0_hasPolynomial v0_hasLists w0_near w0_lists w0_colours w0_isApart_1 (upd w0_row_11 x2_10.toNatClampNeg 0) w0_can_12 w0_could_13) := hD
      refine gL_e (P := (fun (z_36 : (Nat → Int32) × (Nat → Int32) × (Nat → Int32)) => ∀ (w0_row_20 : Nat → Int32), ∀ (w0_can_21 : Nat → Int32), ∀ (w0_could_22 : Nat → Int32), z_36 = (w0_row_20, w0_can_21, w0_could_22) → ∀ (ls : Array Slot) (H : Heap) (locs : List Loc), lv_has ls 3 [(0, .ref a0), (1, .int q_3), (2, .int x2_10)] → va_P (dC, dI) vwCl (wd_Mo_lists cI cJ cG cZ a0 a0_from a0_to a0_near a0_lists a0_colours a0_shades a0_tints a0_attempt a0_taken a0_isApart a0_ways a0_next a0_splits a0_powers a0_row a0_many a0_can a0_could a0_arcRow a0_order a0_isOut 0 v0_nodes v0_arcs v0_takenMany v0_leftBits v0_hasPolynomial v0_hasLists w0_near w0_lists w0_colours w0_isApart_1 w0_row_20 w0_can_21 w0_could_22) H → va_D A (wd_Mo_lists cI cJ cG cZ a0 a0_from a0_to a0_near a0_lists a0_colours a0_shades a0_tints a0_attempt a0_taken a0_isApart a0_ways a0_next a0_splits a0_powers a0_row a0_many a0_can a0_could a0_arcRow a0_order a0_isOut 0 v0_nodes v0_arcs v0_takenMany v0_leftBits v0_hasPolynomial v0_hasLists w0_near w0_lists w0_colours w0_isApart_1 w0_row_20 w0_can_21 w0_could_22) → va_S A s.heap H locs → W p l e (headSpec us_Mo_lists rm_Mo_lists).room s m ([.ref a0] : List Value).toArray below meth c H locs 0 0 (MQ below (va_Qi (fun (r : Int32) (_ : Unit) => ret = r) (fun _ t => PoS (dC, dI) (tyL cI cJ cG cZ) (wd_Mo_lists cI cJ cG cZ a0 a0_from a0_to a0_near a0_lists a0_colours a0_shades a0_tints a0_attempt a0_taken a0_isApart a0_ways a0_next a0_splits a0_powers a0_row a0_many a0_can a0_could a0_arcRow a0_order a0_isOut o_v0_thrown v0_nodes v0_arcs v0_takenMany v0_leftBits v0_hasPolynomial v0_hasLists w0_near w0_lists o_w0_colours o_w0_isApart o_w0_row o_w0_can o_w0_could) A t) A) ([.ref a0] : List Value).toArray s 0 0 A) (F0 m 36 ls []))) hm (fun k_36 z_36 ih_36 hm => ?_) _ _ _ rfl ls H locs (lv_sub hl [0, 1, 2] rfl) hP hD hS
      intro w0_row_20 w0_can_21 w0_could_22 hz ls H locs hl hP hD hS
      subst hz
      dsimp only at hm
      refine lv_aload_n hx hb d_Mo_lists_36 rfl (lv_at hl 0 rfl) ?_
      refine va_get (D := (dC, dI)) (ci := 8) (v := .ref a0_lists) (C := R_Mo) (T := T_Mo) (N := 28) hx hb htt hin_Mo hown hK hP 0 rfl rfl 6 (by decide) (htt _ kt_775) (fun _ h9 => h9) rfl d_Mo_lists_37 ?_
      refine lv_iload_n hx hb d_Mo_lists_40 rfl (lv_at hl 2 rfl) ?_
      obtain ⟨hi_23, hm⟩ := gC_e hm
      refine va_iald hx hb hK hP 2 0 rfl rfl (inb_vp hi_23) d_Mo_lists_41 ?_
      refine lv_aload_n hx hb d_Mo_lists_42 rfl (lv_at hl 0 rfl) ?_
      refine va_get (D := (dC, dI)) (ci := 8) (v := .ref a0_row) (C := R_Mo) (T := T_Mo) (N := 28) hx hb htt hin_Mo hown hK hP 0 rfl rfl 19 (by decide) (htt _ kt_788) (fun _ h9 => h9) rfl d_Mo_lists_43 ?_
      refine lv_iload_n hx hb d_Mo_lists_46 rfl (lv_at hl 2 rfl) ?_
      obtain ⟨hi_24, hm⟩ := gC_e hm
      refine va_iald hx hb hK hP 5 0 rfl rfl (inb_vp hi_24) d_Mo_lists_47 ?_
      refine lv_ishr hx hb d_Mo_lists_48 ?_
      refine lv_iconst (v := 1) hx hb d_Mo_lists_49 (by decide) ?_
      refine lv_iand hx hb d_Mo_lists_50 ?_
      obtain ⟨J_78, hJ_78, hm⟩ := gB_x hm
      have jp_78 : ∀ (w0_can_25 : Nat → Int32) (w0_could_26 : Nat → Int32) (ls : Array Slot) (H : Heap) (locs : List Loc), J_78 w0_can_25 w0_could_26 = some (ret, o_v0_thrown, o_w0_colours, o_w0_isApart, o_w0_row, o_w0_can, o_w0_could) → lv_has ls 3 [(0, .ref a0), (1, .int q_3), (2, .int x2_10)] → va_P (dC, dI) vwCl (wd_Mo_lists cI cJ cG cZ a0 a0_from a0_to a0_near a0_lists a0_colours a0_shades a0_tints a0_attempt a0_taken a0_isApart a0_ways a0_next a0_splits a0_powers a0_row a0_many a0_can a0_could a0_arcRow a0_order a0_isOut 0 v0_nodes v0_arcs v0_takenMany v0_leftBits v0_hasPolynomial v0_hasLists w0_near w0_lists w0_colours w0_isApart_1 w0_row_20 w0_can_25 w0_could_26) H → va_D A (wd_Mo_lists cI cJ cG cZ a0 a0_from a0_to a0_near a0_lists a0_colours a0_shades a0_tints a0_attempt a0_taken a0_isApart a0_ways a0_next a0_splits a0_powers a0_row a0_many a0_can a0_could a0_arcRow a0_order a0_isOut 0 v0_nodes v0_arcs v0_takenMany v0_leftBits v0_hasPolynomial v0_hasLists w0_near w0_lists w0_colours w0_isApart_1 w0_row_20 w0_can_25 w0_could_26) → va_S A s.heap H locs → W p l e (headSpec us_Mo_lists rm_Mo_lists).room s m ([.ref a0] : List Value).toArray below meth c H locs 0 0 (MQ below (va_Qi (fun (r : Int32) (_ : Unit) => ret = r) (fun _ t => PoS (dC, dI) (tyL cI cJ cG cZ) (wd_Mo_lists cI cJ cG cZ a0 a0_from a0_to a0_near a0_lists a0_colours a0_shades a0_tints a0_attempt a0_taken a0_isApart a0_ways a0_next a0_splits a0_powers a0_row a0_many a0_can a0_could a0_arcRow a0_order a0_isOut o_v0_thrown v0_nodes v0_arcs v0_takenMany v0_leftBits v0_hasPolynomial v0_hasLists w0_near w0_lists o_w0_colours o_w0_isApart o_w0_row o_w0_can o_w0_could) A t) A) ([.ref a0] : List Value).toArray s 0 0 A) (F0 m 78 ls []) := by
        intro w0_can_25 w0_could_26 ls H locs hm hl hP hD hS
        have hm := jn2 hJ_78 hm
        refine lv_aload_n hx hb d_Mo_lists_78 rfl (lv_at hl 0 rfl) ?_
        refine va_get (D := (dC, dI)) (ci := 8) (v := .ref a0_row) (C := R_Mo) (T := T_Mo) (N := 28) hx hb htt hin_Mo hown hK hP 0 rfl rfl 19 (by decide) (htt _ kt_788) (fun _ h9 => h9) rfl d_Mo_lists_79 ?_
        refine lv_iload_n hx hb d_Mo_lists_82 rfl (lv_at hl 2 rfl) ?_
        refine lv_dup2_11 hx hb d_Mo_lists_83 rfl rfl ?_
        obtain ⟨hi_27, hm⟩ := gC_e hm
        refine va_iald hx hb hK hP 5 0 rfl rfl (inb_vp hi_27) d_Mo_lists_84 ?_
        refine lv_iconst (v := 1) hx hb d_Mo_lists_85 (by decide) ?_
        refine lv_iadd hx hb d_Mo_lists_86 ?_
        obtain ⟨hi_28, hm⟩ := gC_e hm
        refine va_iast hx hb hK hP hD hS 5 0 rfl rfl (inb_vp hi_28) d_Mo_lists_87 (fun H locs hP hD hS => ?_)
        have hP : va_P (dC, dI) vwCl (wd_Mo_lists cI cJ cG cZ a0 a0_from a0_to a0_near a0_lists a0_colours a0_shades a0_tints a0_attempt a0_taken a0_isApart a0_ways a0_next a0_splits a0_powers a0_row a0_many a0_can a0_could a0_arcRow a0_order a0_isOut 0 v0_nodes v0_arcs v0_takenMany v0_leftBits v0_hasPolynomial v0_hasLists w0_near w0_lists w0_colours w0_isApart_1 (upd w0_row_20 x2_10.toNatClampNeg ((w0_row_20 x2_10.toNatClampNeg) + 1)) w0_can_25 w0_could_26) H := hP
        have hD : va_D A (wd_Mo_lists cI cJ cG cZ a0 a0_from a0_to a0_near a0_lists a0_colours a0_shades a0_tints a0_attempt a0_taken a0_isApart a0_ways a0_next a0_splits a0_powers a0_row a0_many a0_can a0_could a0_arcRow a0_order a0_isOut 0 v0_nodes v0_arcs v0_takenMany v0_leftBits v0_hasPolynomial v0_hasLists w0_near w0_lists w0_colours w0_isApart_1 (upd w0_row_20 x2_10.toNatClampNeg ((w0_row_20 x2_10.toNatClampNeg) + 1)) w0_can_25 w0_could_26) := hD
        refine lv_goto (tgt := 36) hx hb d_Mo_lists_88 (by decide) ?_
        exact ih_36 _ hm _ _ _ rfl ls H locs (lv_sub hl [0, 1, 2] rfl) hP hD hS
      clear hJ_78
      refine lv_if_eq (tgt := 78) hx hb d_Mo_lists_51 (by decide) (fun c_29 => ?_) (fun c_29 => ?_)
      · have hm := ite_t c_29 hm
        exact jp_78 _ _ ls H locs hm (lv_sub hl [0, 1, 2] rfl) hP hD hS
      · have hm := ite_f c_29 hm
        refine lv_aload_n hx hb d_Mo_lists_54 rfl (lv_at hl 0 rfl) ?_
        refine lv_iload_n hx hb d_Mo_lists_55 rfl (lv_at hl 2 rfl) ?_
        refine lv_aload_n hx hb d_Mo_lists_56 rfl (lv_at hl 0 rfl) ?_
        refine va_get (D := (dC, dI)) (ci := 8) (v := .ref a0_row) (C := R_Mo) (T := T_Mo) (N := 28) hx hb htt hin_Mo hown hK hP 0 rfl rfl 19 (by decide) (htt _ kt_788) (fun _ h9 => h9) rfl d_Mo_lists_57 ?_
        refine lv_iload_n hx hb d_Mo_lists_60 rfl (lv_at hl 2 rfl) ?_
        obtain ⟨hi_30, hm⟩ := gC_e hm
        refine va_iald hx hb hK hP 5 0 rfl rfl (inb_vp hi_30) d_Mo_lists_61 ?_
        obtain ⟨q_31, hc_32, hm⟩ := gM_e hm
        have hPc : va_P (dC, dI) vwCl (wd_Mo_fits cI cJ cG cZ a0 a0_from a0_to a0_near a0_lists a0_colours a0_shades a0_tints a0_attempt a0_taken a0_isApart a0_ways a0_next a0_splits a0_powers a0_row a0_many a0_can a0_could a0_arcRow a0_order a0_isOut 0 v0_nodes v0_arcs v0_takenMany v0_leftBits v0_hasPolynomial v0_hasLists w0_near w0_row_20) H := hP.sub [0, 1, 5] rfl
        have hDc : va_D A (wd_Mo_fits cI cJ cG cZ a0 a0_from a0_to a0_near a0_lists a0_colours a0_shades a0_tints a0_attempt a0_taken a0_isApart a0_ways a0_next a0_splits a0_powers a0_row a0_many a0_can a0_could a0_arcRow a0_order a0_isOut 0 v0_nodes v0_arcs v0_takenMany v0_leftBits v0_hasPolynomial v0_hasLists w0_near w0_row_20) := hD.sub [0, 1, 5] (by decide) rfl
        have hFc : ∀ q, va_A (wd_Mo_fits cI cJ cG cZ a0 a0_from a0_to a0_near a0_lists a0_colours a0_shades a0_tints a0_attempt a0_taken a0_isApart a0_ways a0_next a0_splits a0_powers a0_row a0_many a0_can a0_could a0_arcRow a0_order a0_isOut 0 v0_nodes v0_arcs v0_takenMany v0_leftBits v0_hasPolynomial v0_hasLists w0_near w0_row_20) H.size q → A q := va_free hD hS hA [0, 1, 5] rfl
        refine va_calli (va_runV (As := [.int x2_10, .int (w0_row_20 x2_10.toNatClampNeg)]) (rest := []) ⟨hx, hb, hml, hown, htt⟩ (c_Mo_fits l dC dI cI cJ cG cZ a0 a0_from a0_to a0_near a0_lists a0_colours a0_shades a0_tints a0_attempt a0_taken a0_isApart a0_ways a0_next a0_splits a0_powers a0_row a0_many a0_can a0_could a0_arcRow a0_order a0_isOut H.size F 0 v0_nodes v0_arcs v0_takenMany v0_leftBits v0_hasPolynomial v0_hasLists w0_near w0_row_20 x2_10 (w0_row_20 x2_10.toNatClampNeg) q_31 hc_32) (cwV 2 htt (gdV kt_884 kt_886 kp_45 kt_10 kt_887) rfl rfl rfl (by decide +kernel) ⟨(Nat.le_of_ble_eq_true rfl), (Nat.le_of_ble_eq_true rfl)⟩) ⟨PcS_blind, va_recv hK hPc (ci := 8) (q0 := 0) rfl rfl, PcS_in hPc hK hDc hNw⟩ rfl rfl hl.1 rfl (lv_room (Nat.le_of_ble_eq_true rfl)) d_Mo_lists_62 ⟨Nat.zero_le _, Nat.zero_le _⟩) hS (fun q _ h => hFc q h) hFc (fun r_33 u t H1 locs ht hvm hw hB hz1 hk1 hS => ?_)
        obtain ⟨hP1, hK1, hD1⟩ := hB
        rw [ht] at hP1
        obtain ⟨hw, hz_34⟩ := hw
        subst hw
        obtain ⟨hP, hD⟩ := va_join (wr := [(a0_lists, .inl (cI, 12, .inl w0_lists)), (a0_colours, .inl (cI, 12, .inl w0_colours)), (a0_isApart, .inl (cZ, 4096, .inl w0_isApart_1)), (a0_can, .inl (cZ, 4096, .inl w0_can_21)), (a0_could, .inl (cZ, 4096, .inl w0_could_22))]) (w1 := (wd_Mo_fits cI cJ cG cZ a0 a0_from a0_to a0_near a0_lists a0_colours a0_shades a0_tints a0_attempt a0_taken a0_isApart a0_ways a0_next a0_splits a0_powers a0_row a0_many a0_can a0_could a0_arcRow a0_order a0_isOut 0 v0_nodes v0_arcs v0_takenMany v0_leftBits v0_hasPolynomial v0_hasLists w0_near w0_row_20)) hP hD [0, 1, 5] [2, 3, 4, 6, 7] rfl rfl (by decide) (by decide) hk1 hFc hP1 hD1
        have hP : va_P (dC, dI) vwCl (wd_Mo_lists cI cJ cG cZ a0 a0_from a0_to a0_near a0_lists a0_colours a0_shades a0_tints a0_attempt a0_taken a0_isApart a0_ways a0_next a0_splits a0_powers a0_row a0_many a0_can a0_could a0_arcRow a0_order a0_isOut 0 v0_nodes v0_arcs v0_takenMany v0_leftBits v0_hasPolynomial v0_hasLists w0_near w0_lists w0_colours w0_isApart_1 w0_row_20 w0_can_21 w0_could_22) H1 := hP.sub [5, 6, 0, 1, 2, 7, 3, 4] rfl
        have hD : va_D A (wd_Mo_lists cI cJ cG cZ a0 a0_from a0_to a0_near a0_lists a0_colours a0_shades a0_tints a0_attempt a0_taken a0_isApart a0_ways a0_next a0_splits a0_powers a0_row a0_many a0_can a0_could a0_arcRow a0_order a0_isOut 0 v0_nodes v0_arcs v0_takenMany v0_leftBits v0_hasPolynomial v0_hasLists w0_near w0_lists w0_colours w0_isApart_1 w0_row_20 w0_can_21 w0_could_22) := hD.sub [5, 6, 0, 1, 2, 7, 3, 4] (by decide) rfl
        clear hP1 hK1 hD1 hk1 hPc hDc hFc ht hvm hz1
        generalize H1 = H at hP hS ⊢
        refine lv_if_eq (tgt := 78) hx hb d_Mo_lists_65 (by decide) (fun c_35 => ?_) (fun c_35 => ?_)
        · have hm := ite_t c_35 hm
          exact jp_78 _ _ ls H locs hm (lv_sub hl [0, 1, 2] rfl) hP hD hS
        · have hm := ite_f c_35 hm
          refine lv_aload_n hx hb d_Mo_lists_68 rfl (lv_at hl 0 rfl) ?_
          refine lv_iload_n hx hb d_Mo_lists_69 rfl (lv_at hl 2 rfl) ?_
          refine lv_iconst (v := 1) hx hb d_Mo_lists_70 (by decide) ?_
          refine lv_iadd hx hb d_Mo_lists_71 ?_
          obtain ⟨⟨q_36, w0_can_37, w0_could_38⟩, hc_39, hm⟩ := gM_e hm
          dsimp only at hm
          have hPc : va_P (dC, dI) vwCl (wd_Mo_canGoOn cI cJ cG cZ a0 a0_from a0_to a0_near a0_lists a0_colours a0_shades a0_tints a0_attempt a0_taken a0_isApart a0_ways a0_next a0_splits a0_powers a0_row a0_many a0_can a0_could a0_arcRow a0_order a0_isOut 0 v0_nodes v0_arcs v0_takenMany v0_leftBits v0_hasPolynomial v0_hasLists w0_near w0_lists w0_isApart_1 w0_row_20 w0_can_21 w0_could_22) H := hP.sub [0, 1, 2, 4, 5, 6, 7] rfl
          have hDc : va_D A (wd_Mo_canGoOn cI cJ cG cZ a0 a0_from a0_to a0_near a0_lists a0_colours a0_shades a0_tints a0_attempt a0_taken a0_isApart a0_ways a0_next a0_splits a0_powers a0_row a0_many a0_can a0_could a0_arcRow a0_order a0_isOut 0 v0_nodes v0_arcs v0_takenMany v0_leftBits v0_hasPolynomial v0_hasLists w0_near w0_lists w0_isApart_1 w0_row_20 w0_can_21 w0_could_22) := hD.sub [0, 1, 2, 4, 5, 6, 7] (by decide) rfl
          have hFc : ∀ q, va_A (wd_Mo_canGoOn cI cJ cG cZ a0 a0_from a0_to a0_near a0_lists a0_colours a0_shades a0_tints a0_attempt a0_taken a0_isApart a0_ways a0_next a0_splits a0_powers a0_row a0_many a0_can a0_could a0_arcRow a0_order a0_isOut 0 v0_nodes v0_arcs v0_takenMany v0_leftBits v0_hasPolynomial v0_hasLists w0_near w0_lists w0_isApart_1 w0_row_20 w0_can_21 w0_could_22) H.size q → A q := va_free hD hS hA [0, 1, 2, 4, 5, 6, 7] rfl
          refine va_calli (va_runV (As := [.int (x2_10 + 1)]) (rest := []) ⟨hx, hb, hml, hown, htt⟩ (c_Mo_canGoOn l dC dI cI cJ cG cZ a0 a0_from a0_to a0_near a0_lists a0_colours a0_shades a0_tints a0_attempt a0_taken a0_isApart a0_ways a0_next a0_splits a0_powers a0_row a0_many a0_can a0_could a0_arcRow a0_order a0_isOut H.size F 0 v0_nodes v0_arcs v0_takenMany v0_leftBits v0_hasPolynomial v0_hasLists w0_near w0_lists w0_isApart_1 w0_row_20 w0_can_21 w0_could_22 (x2_10 + 1) q_36 w0_can_37 w0_could_38 hc_39) (cwV 1 htt (gdV kt_932 kt_934 kp_51 kt_10 kt_935) rfl rfl rfl (by decide +kernel) ⟨(Nat.le_of_ble_eq_true rfl), (Nat.le_of_ble_eq_true rfl)⟩) ⟨PcS_blind, va_recv hK hPc (ci := 8) (q0 := 0) rfl rfl, PcS_in hPc hK hDc hNw⟩ rfl rfl hl.1 rfl (lv_room (Nat.le_of_ble_eq_true rfl)) d_Mo_lists_72 ⟨Nat.zero_le _, Nat.zero_le _⟩) hS (fun q _ h => hFc q h) hFc (fun r_41 u t H1 locs ht hvm hw hB hz1 hk1 hS => ?_)
          obtain ⟨hP1, hK1, hD1⟩ := hB
          rw [ht] at hP1
          obtain ⟨hw, hz_42⟩ := hw
          subst hw
          obtain ⟨hP, hD⟩ := va_join (wr := [(a0_colours, .inl (cI, 12, .inl w0_colours))]) (w1 := (wd_Mo_canGoOn cI cJ cG cZ a0 a0_from a0_to a0_near a0_lists a0_colours a0_shades a0_tints a0_attempt a0_taken a0_isApart a0_ways a0_next a0_splits a0_powers a0_row a0_many a0_can a0_could a0_arcRow a0_order a0_isOut 0 v0_nodes v0_arcs v0_takenMany v0_leftBits v0_hasPolynomial v0_hasLists w0_near w0_lists w0_isApart_1 w0_row_20 w0_can_37 w0_could_38)) hP hD [0, 1, 2, 4, 5, 6, 7] [3] rfl rfl (by decide) (by decide) hk1 hFc hP1 hD1
          have hP : va_P (dC, dI) vwCl (wd_Mo_lists cI cJ cG cZ a0 a0_from a0_to a0_near a0_lists a0_colours a0_shades a0_tints a0_attempt a0_taken a0_isApart a0_ways a0_next a0_splits a0_powers a0_row a0_many a0_can a0_could a0_arcRow a0_order a0_isOut 0 v0_nodes v0_arcs v0_takenMany v0_leftBits v0_hasPolynomial v0_hasLists w0_near w0_lists w0_colours w0_isApart_1 w0_row_20 w0_can_37 w0_could_38) H1 := hP.sub [1, 2, 3, 0, 4, 5, 6, 7] rfl
          have hD : va_D A (wd_Mo_lists cI cJ cG cZ a0 a0_from a0_to a0_near a0_lists a0_colours a0_shades a0_tints a0_attempt a0_taken a0_isApart a0_ways a0_next a0_splits a0_powers a0_row a0_many a0_can a0_could a0_arcRow a0_order a0_isOut 0 v0_nodes v0_arcs v0_takenMany v0_leftBits v0_hasPolynomial v0_hasLists w0_near w0_lists w0_colours w0_isApart_1 w0_row_20 w0_can_37 w0_could_38) := hD.sub [1, 2, 3, 0, 4, 5, 6, 7] (by decide) rfl
          clear hP1 hK1 hD1 hk1 hPc hDc hFc ht hvm hz1
          generalize H1 = H at hP hS ⊢
          refine lv_if_ne (tgt := 91) hx hb d_Mo_lists_75 (by decide) (fun c_43 => ?_) (fun c_43 => ?_)
          · have hm := ite_f c_43 hm
            obtain ⟨x2_44, ex2_44⟩ : ∃ y : Int32, y = x2_10 + 1 := ⟨_, rfl⟩
            have hm := gB_at ex2_44 hm
            refine lv_iinc (v := x2_44) (lv' := [(2, .int x2_44), (0, .ref a0), (1, .int q_3)]) hx hb d_Mo_lists_91 hl (k := 2) rfl (by rw [ex2_44]; rfl) (by decide) rfl (fun ls hl => ?_)
            refine lv_goto (tgt := 17) hx hb d_Mo_lists_94 (by decide) ?_
            exact ih_17 _ hm _ _ _ _ rfl ls H locs (lv_sub hl [1, 2, 0] rfl) hP hD hS
          · have hm := ite_t c_43 hm
            exact jp_78 _ _ ls H locs hm (lv_sub hl [0, 1, 2] rfl) hP hD hS
