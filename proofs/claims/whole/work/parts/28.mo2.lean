theorem d_Mo_keepColours_0 : decode prog_10_method_14_code 0 = .ok (.iconst 0, 1) := by decide +kernel
theorem d_Mo_keepColours_1 : decode prog_10_method_14_code 1 = .ok (.istore_n 2, 1) := by decide +kernel
theorem d_Mo_keepColours_2 : decode prog_10_method_14_code 2 = .ok (.iload_n 2, 1) := by decide +kernel
theorem d_Mo_keepColours_3 : decode prog_10_method_14_code 3 = .ok (.bipush 12, 2) := by decide +kernel
theorem d_Mo_keepColours_5 : decode prog_10_method_14_code 5 = .ok (.if_icmp .ge 37, 3) := by decide +kernel
theorem d_Mo_keepColours_8 : decode prog_10_method_14_code 8 = .ok (.aload_n 0, 1) := by decide +kernel
theorem d_Mo_keepColours_9 : decode prog_10_method_14_code 9 = .ok (.getfield 22, 3) := by decide +kernel
theorem d_Mo_keepColours_12 : decode prog_10_method_14_code 12 = .ok (.iload_n 2, 1) := by decide +kernel
theorem d_Mo_keepColours_13 : decode prog_10_method_14_code 13 = .ok (.iload_n 1, 1) := by decide +kernel
theorem d_Mo_keepColours_14 : decode prog_10_method_14_code 14 = .ok (.ifCond .eq 20, 3) := by decide +kernel
theorem d_Mo_keepColours_17 : decode prog_10_method_14_code 17 = .ok (.iload_n 2, 1) := by decide +kernel
theorem d_Mo_keepColours_18 : decode prog_10_method_14_code 18 = .ok (.aload_n 0, 1) := by decide +kernel
theorem d_Mo_keepColours_19 : decode prog_10_method_14_code 19 = .ok (.getfield 86, 3) := by decide +kernel
theorem d_Mo_keepColours_22 : decode prog_10_method_14_code 22 = .ok (.if_icmp .ge 12, 3) := by decide +kernel
theorem d_Mo_keepColours_25 : decode prog_10_method_14_code 25 = .ok (.aload_n 0, 1) := by decide +kernel
theorem d_Mo_keepColours_26 : decode prog_10_method_14_code 26 = .ok (.getfield 55, 3) := by decide +kernel
theorem d_Mo_keepColours_29 : decode prog_10_method_14_code 29 = .ok (.iload_n 2, 1) := by decide +kernel
theorem d_Mo_keepColours_30 : decode prog_10_method_14_code 30 = .ok (.iaload, 1) := by decide +kernel
theorem d_Mo_keepColours_31 : decode prog_10_method_14_code 31 = .ok (.goto 4, 3) := by decide +kernel
theorem d_Mo_keepColours_34 : decode prog_10_method_14_code 34 = .ok (.iconst (-1), 1) := by decide +kernel
theorem d_Mo_keepColours_35 : decode prog_10_method_14_code 35 = .ok (.iastore, 1) := by decide +kernel
theorem d_Mo_keepColours_36 : decode prog_10_method_14_code 36 = .ok (.iinc 2 1, 3) := by decide +kernel
theorem d_Mo_keepColours_39 : decode prog_10_method_14_code 39 = .ok (.goto (-37), 3) := by decide +kernel
theorem d_Mo_keepColours_42 : decode prog_10_method_14_code 42 = .ok (.return_, 1) := by decide +kernel
abbrev wd_Mo_keepColours (cI cJ cG cZ : ClassId) (a0 a0_from a0_to a0_near a0_lists a0_colours a0_shades a0_tints a0_attempt a0_taken a0_isApart a0_ways a0_next a0_splits a0_powers a0_row a0_many a0_can a0_could a0_arcRow a0_order a0_isOut : Nat) (v0_thrown : Int32) (v0_nodes : Int32) (v0_arcs : Int32) (v0_takenMany : Int32) (v0_leftBits : Int32) (v0_hasPolynomial : Int32) (v0_hasLists : Int32) (w0_colours : Nat → Int32) (w0_row : Nat → Int32) : va_W := [(a0, .inr (8, [.int v0_thrown, .int v0_nodes, .int v0_arcs, .ref a0_from, .ref a0_to, .ref a0_near, .ref a0_lists, .ref a0_colours, .ref a0_shades, .ref a0_tints, .ref a0_attempt, .int v0_takenMany, .ref a0_taken, .int v0_leftBits, .ref a0_isApart, .ref a0_ways, .ref a0_next, .ref a0_splits, .ref a0_powers, .ref a0_row, .ref a0_many, .int v0_hasPolynomial, .int v0_hasLists, .ref a0_can, .ref a0_could, .ref a0_arcRow, .ref a0_order, .ref a0_isOut])), (a0_colours, .inl (cI, 12, .inl w0_colours)), (a0_row, .inl (cI, 12, .inl w0_row))]
abbrev us_Mo_keepColours : List Cond := .code y_Mo_keepColours prog_10_method_14_code 3 none :: gtbl
abbrev rm_Mo_keepColours : Room := { frames := 0, cells := 0, slots := 0, locals := 0 }
def m_Mo_keepColours (F : Nat) (v0_thrown : Int32) (v0_nodes : Int32) (v0_arcs : Int32) (v0_takenMany : Int32) (v0_leftBits : Int32) (v0_hasPolynomial : Int32) (v0_hasLists : Int32) (w0_colours : Nat → Int32) (w0_row : Nat → Int32) (p1 : Int32) : Option ((Nat → Int32)) :=
  gL (fun (k_2 : (Int32 × (Nat → Int32)) → Option ((Nat → Int32))) (z_2 : Int32 × (Nat → Int32)) => match z_2 with
  | (x2_1, w0_colours_2) =>
  if (12 : Int32) ≤ x2_1 then (
    some w0_colours_2
  ) else (
    gB (α := Int32 → Option ((Nat → Int32))) (fun s_4 =>
      gC (inb x2_1 12) (
      gB (x2_1 + 1) (fun x2_6 =>
      k_2 (x2_6, upd w0_colours_2 x2_1.toNatClampNeg s_4)))
    ) (fun J_35 =>
    gB (α := Option ((Nat → Int32))) (
      J_35 (-1)
    ) (fun J_34 =>
    if p1 = 0 then (
      J_34
    ) else (
      if v0_nodes ≤ x2_1 then (
        J_34
      ) else (
        gC (inb x2_1 12) (
        J_35 (w0_row x2_1.toNatClampNeg))
      )
    )
    )
    )
  )
  ) F (0, w0_colours)
set_option maxHeartbeats 4000000 in
set_option maxRecDepth 100000 in
theorem c_Mo_keepColours (l : Launch) (dC : Nat → ClassId) (dI : Nat → Nat → Nat) (cI cJ cG cZ : ClassId) (a0 a0_from a0_to a0_near a0_lists a0_colours a0_shades a0_tints a0_attempt a0_taken a0_isApart a0_ways a0_next a0_splits a0_powers a0_row a0_many a0_can a0_could a0_arcRow a0_order a0_isOut : Nat) (sz : Nat) (F : Nat) (v0_thrown : Int32) (v0_nodes : Int32) (v0_arcs : Int32) (v0_takenMany : Int32) (v0_leftBits : Int32) (v0_hasPolynomial : Int32) (v0_hasLists : Int32) (w0_colours : Nat → Int32) (w0_row : Nat → Int32) (p1 : Int32) (o_w0_colours : Nat → Int32) (hm : m_Mo_keepColours F v0_thrown v0_nodes v0_arcs v0_takenMany v0_leftBits v0_hasPolynomial v0_hasLists w0_colours w0_row p1 = some o_w0_colours) : Met l y_Mo_keepColours us_Mo_keepColours rm_Mo_keepColours (PcS (dC, dI) (tyL cI cJ cG cZ) [.ref a0, .int p1] sz (wd_Mo_keepColours cI cJ cG cZ a0 a0_from a0_to a0_near a0_lists a0_colours a0_shades a0_tints a0_attempt a0_taken a0_isApart a0_ways a0_next a0_splits a0_powers a0_row a0_many a0_can a0_could a0_arcRow a0_order a0_isOut v0_thrown v0_nodes v0_arcs v0_takenMany v0_leftBits v0_hasPolynomial v0_hasLists w0_colours w0_row)) (va_Qv (fun (_ : Unit) => True) (fun _ t => PoS (dC, dI) (tyL cI cJ cG cZ) (wd_Mo_keepColours cI cJ cG cZ a0 a0_from a0_to a0_near a0_lists a0_colours a0_shades a0_tints a0_attempt a0_taken a0_isApart a0_ways a0_next a0_splits a0_powers a0_row a0_many a0_can a0_could a0_arcRow a0_order a0_isOut v0_thrown v0_nodes v0_arcs v0_takenMany v0_leftBits v0_hasPolynomial v0_hasLists o_w0_colours w0_row) (va_A (wd_Mo_keepColours cI cJ cG cZ a0 a0_from a0_to a0_near a0_lists a0_colours a0_shades a0_tints a0_attempt a0_taken a0_isApart a0_ways a0_next a0_splits a0_powers a0_row a0_many a0_can a0_could a0_arcRow a0_order a0_isOut v0_thrown v0_nodes v0_arcs v0_takenMany v0_leftBits v0_hasPolynomial v0_hasLists w0_colours w0_row) sz) t) (va_A (wd_Mo_keepColours cI cJ cG cZ a0 a0_from a0_to a0_near a0_lists a0_colours a0_shades a0_tints a0_attempt a0_taken a0_isApart a0_ways a0_next a0_splits a0_powers a0_row a0_many a0_can a0_could a0_arcRow a0_order a0_isOut v0_thrown v0_nodes v0_arcs v0_takenMany v0_leftBits v0_hasPolynomial v0_hasLists w0_colours w0_row) sz)) 0 0 (va_A (wd_Mo_keepColours cI cJ cG cZ a0 a0_from a0_to a0_near a0_lists a0_colours a0_shades a0_tints a0_attempt a0_taken a0_isApart a0_ways a0_next a0_splits a0_powers a0_row a0_many a0_can a0_could a0_arcRow a0_order a0_isOut v0_thrown v0_nodes v0_arcs v0_takenMany v0_leftBits v0_hasPolynomial v0_hasLists w0_colours w0_row) sz) := by
  refine Met.ofW (cc := prog_10_method_14_code) (maxL := 3) (ret := none) (by decide) rfl ?_
  intro p e s m args below meth c s₁ B hml hv
  obtain ⟨rfl, hsz, hP, hK, hD0, hNw⟩ := hv
  have hx := B.exec
  have hb := B.bytes
  have hr := B.returns
  have htt : ∀ w ∈ gtbl, w.before _ s = true := fun w h => atoms_spec (ws := us_Mo_keepColours) B.pre w (List.mem_cons_of_mem _ h)
  have hown : s.vm.findClass R_Mo = some m.cls := findClass_of_methodNamed B.named
  have hlocks := B.notSynchronized
  subst hsz
  have hD := hD0.self (sz := s.heap.size)
  generalize hAe : va_A (wd_Mo_keepColours cI cJ cG cZ a0 a0_from a0_to a0_near a0_lists a0_colours a0_shades a0_tints a0_attempt a0_taken a0_isApart a0_ways a0_next a0_splits a0_powers a0_row a0_many a0_can a0_could a0_arcRow a0_order a0_isOut v0_thrown v0_nodes v0_arcs v0_takenMany v0_leftBits v0_hasPolynomial v0_hasLists w0_colours w0_row) s.heap.size = A at hD ⊢
  have hA : ∀ q : Nat, s.heap.size ≤ q → A q := fun q h => by rw [← hAe]; exact Or.inr h
  clear hAe hD0
  have hS : va_S A s.heap s.heap [] := va_S.rf
  have hl := lv_entry ([.ref a0, .int p1]) (n := 3) (Nat.le_of_ble_eq_true rfl)
  rw [lg_entry_eq]
  generalize (lg_sl ([.ref a0, .int p1]) ++ List.replicate (3 - (lg_sl ([.ref a0, .int p1])).length) Slot.unset).toArray = ls at hl ⊢
  have hl : lv_has ls 3 [(0, .ref a0), (1, .int p1)] := hl
  generalize hH : s.heap = H at hP ⊢
  have hS : va_S A s.heap H [] := hH ▸ hS
  generalize hLo : ([] : List Loc) = locs at hS ⊢
  clear hH hLo
  unfold m_Mo_keepColours at hm
  refine lv_iconst (v := 0) hx hb d_Mo_keepColours_0 (by decide) ?_
  refine lv_istore_n (lv' := [(2, .int 0), (0, .ref a0), (1, .int p1)]) hx hb d_Mo_keepColours_1 rfl hl (by decide) rfl (fun ls hl => ?_)
  refine gL_e (P := (fun (z_2 : Int32 × (Nat → Int32)) => ∀ (x2_1 : Int32), ∀ (w0_colours_2 : Nat → Int32), z_2 = (x2_1, w0_colours_2) → ∀ (ls : Array Slot) (H : Heap) (locs : List Loc), lv_has ls 3 [(0, .ref a0), (1, .int p1), (2, .int x2_1)] → va_P (dC, dI) vwCl (wd_Mo_keepColours cI cJ cG cZ a0 a0_from a0_to a0_near a0_lists a0_colours a0_shades a0_tints a0_attempt a0_taken a0_isApart a0_ways a0_next a0_splits a0_powers a0_row a0_many a0_can a0_could a0_arcRow a0_order a0_isOut v0_thrown v0_nodes v0_arcs v0_takenMany v0_leftBits v0_hasPolynomial v0_hasLists w0_colours_2 w0_row) H → va_D A (wd_Mo_keepColours cI cJ cG cZ a0 a0_from a0_to a0_near a0_lists a0_colours a0_shades a0_tints a0_attempt a0_taken a0_isApart a0_ways a0_next a0_splits a0_powers a0_row a0_many a0_can a0_could a0_arcRow a0_order a0_isOut v0_thrown v0_nodes v0_arcs v0_takenMany v0_leftBits v0_hasPolynomial v0_hasLists w0_colours_2 w0_row) → va_S A s.heap H locs → W p l e (headSpec us_Mo_keepColours rm_Mo_keepColours).room s m ([.ref a0, .int p1] : List Value).toArray below meth c H locs 0 0 (MQ below (va_Qv (fun (_ : Unit) => True) (fun _ t => PoS (dC, dI) (tyL cI cJ cG cZ) (wd_Mo_keepColours cI cJ cG cZ a0 a0_from a0_to a0_near a0_lists a0_colours a0_shades a0_tints a0_attempt a0_taken a0_isApart a0_ways a0_next a0_splits a0_powers a0_row a0_many a0_can a0_could a0_arcRow a0_order a0_isOut v0_thrown v0_nodes v0_arcs v0_takenMany v0_leftBits v0_hasPolynomial v0_hasLists o_w0_colours w0_row) A t) A) ([.ref a0, .int p1] : List Value).toArray s 0 0 A) (F0 m 2 ls []))) hm (fun k_2 z_2 ih_2 hm => ?_) _ _ rfl ls H locs (lv_sub hl [1, 2, 0] rfl) hP hD hS
  intro x2_1 w0_colours_2 hz ls H locs hl hP hD hS
  subst hz
  dsimp only at hm
  refine lv_iload_n hx hb d_Mo_keepColours_2 rfl (lv_at hl 2 rfl) ?_
  refine lv_bipush (v := 12) hx hb d_Mo_keepColours_3 (by decide) ?_
  refine lv_icmp_ge (tgt := 42) hx hb d_Mo_keepColours_5 (by decide) (fun c_3 => ?_) (fun c_3 => ?_)
  · have hm := ite_t c_3 hm
    cases hm
    exact W.vret hx hb hr (fun t ht hW => ⟨⟨(), rfl, trivial, by rw [ht]; exact hP, va_K.moved hW.alike hK, hD⟩, hS.F ht⟩) hS.2.2 d_Mo_keepColours_42
  · have hm := ite_f c_3 hm
    refine lv_aload_n hx hb d_Mo_keepColours_8 rfl (lv_at hl 0 rfl) ?_
    refine va_get (D := (dC, dI)) (ci := 8) (v := .ref a0_colours) (C := R_Mo) (T := T_Mo) (N := 28) hx hb htt hin_Mo hown hK hP 0 rfl rfl 7 (by decide) (htt _ kt_776) (fun _ h9 => h9) rfl d_Mo_keepColours_9 ?_
    refine lv_iload_n hx hb d_Mo_keepColours_12 rfl (lv_at hl 2 rfl) ?_
    refine lv_iload_n hx hb d_Mo_keepColours_13 rfl (lv_at hl 1 rfl) ?_
    obtain ⟨J_35, hJ_35, hm⟩ := gB_x hm
    have jp_35 : ∀ (s_4 : Int32) (ls : Array Slot) (H : Heap) (locs : List Loc), J_35 s_4 = some o_w0_colours → lv_has ls 3 [(0, .ref a0), (1, .int p1), (2, .int x2_1)] → va_P (dC, dI) vwCl (wd_Mo_keepColours cI cJ cG cZ a0 a0_from a0_to a0_near a0_lists a0_colours a0_shades a0_tints a0_attempt a0_taken a0_isApart a0_ways a0_next a0_splits a0_powers a0_row a0_many a0_can a0_could a0_arcRow a0_order a0_isOut v0_thrown v0_nodes v0_arcs v0_takenMany v0_leftBits v0_hasPolynomial v0_hasLists w0_colours_2 w0_row) H → va_D A (wd_Mo_keepColours cI cJ cG cZ a0 a0_from a0_to a0_near a0_lists a0_colours a0_shades a0_tints a0_attempt a0_taken a0_isApart a0_ways a0_next a0_splits a0_powers a0_row a0_many a0_can a0_could a0_arcRow a0_order a0_isOut v0_thrown v0_nodes v0_arcs v0_takenMany v0_leftBits v0_hasPolynomial v0_hasLists w0_colours_2 w0_row) → va_S A s.heap H locs → W p l e (headSpec us_Mo_keepColours rm_Mo_keepColours).room s m ([.ref a0, .int p1] : List Value).toArray below meth c H locs 0 0 (MQ below (va_Qv (fun (_ : Unit) => True) (fun _ t => PoS (dC, dI) (tyL cI cJ cG cZ) (wd_Mo_keepColours cI cJ cG cZ a0 a0_from a0_to a0_near a0_lists a0_colours a0_shades a0_tints a0_attempt a0_taken a0_isApart a0_ways a0_next a0_splits a0_powers a0_row a0_many a0_can a0_could a0_arcRow a0_order a0_isOut v0_thrown v0_nodes v0_arcs v0_takenMany v0_leftBits v0_hasPolynomial v0_hasLists o_w0_colours w0_row) A t) A) ([.ref a0, .int p1] : List Value).toArray s 0 0 A) (F0 m 35 ls [.int s_4, .int x2_1, .ref a0_colours]) := by
      intro s_4 ls H locs hm hl hP hD hS
      have hm := jn1 hJ_35 hm
      obtain ⟨hi_5, hm⟩ := gC_e hm
      refine va_iast hx hb hK hP hD hS 1 0 rfl rfl (inb_vp hi_5) d_Mo_keepColours_35 (fun H locs hP hD hS => ?_)
      have hP : va_P (dC, dI) vwCl (wd_Mo_keepColours cI cJ cG cZ a0 a0_from a0_to a0_near a0_lists a0_colours a0_shades a0_tints a0_attempt a0_taken a0_isApart a0_ways a0_next a0_splits a0_powers a0_row a0_many a0_can a0_could a0_arcRow a0_order a0_isOut v0_thrown v0_nodes v0_arcs v0_takenMany v0_leftBits v0_hasPolynomial v0_hasLists (upd w0_colours_2 x2_1.toNatClampNeg s_4) w0_row) H := hP
      have hD : va_D A (wd_Mo_keepColours cI cJ cG cZ a0 a0_from a0_to a0_near a0_lists a0_colours a0_shades a0_tints a0_attempt a0_taken a0_isApart a0_ways a0_next a0_splits a0_powers a0_row a0_many a0_can a0_could a0_arcRow a0_order a0_isOut v0_thrown v0_nodes v0_arcs v0_takenMany v0_leftBits v0_hasPolynomial v0_hasLists (upd w0_colours_2 x2_1.toNatClampNeg s_4) w0_row) := hD
      obtain ⟨x2_6, ex2_6⟩ : ∃ y : Int32, y = x2_1 + 1 := ⟨_, rfl⟩
      have hm := gB_at ex2_6 hm
      refine lv_iinc (v := x2_6) (lv' := [(2, .int x2_6), (0, .ref a0), (1, .int p1)]) hx hb d_Mo_keepColours_36 hl (k := 2) rfl (by rw [ex2_6]; rfl) (by decide) rfl (fun ls hl => ?_)
      refine lv_goto (tgt := 2) hx hb d_Mo_keepColours_39 (by decide) ?_
      exact ih_2 _ hm _ _ rfl ls H locs (lv_sub hl [1, 2, 0] rfl) hP hD hS
    clear hJ_35
    obtain ⟨J_34, hJ_34, hm⟩ := gB_x hm
    have jp_34 : ∀ (ls : Array Slot) (H : Heap) (locs : List Loc), J_34 = some o_w0_colours → lv_has ls 3 [(0, .ref a0), (1, .int p1), (2, .int x2_1)] → va_P (dC, dI) vwCl (wd_Mo_keepColours cI cJ cG cZ a0 a0_from a0_to a0_near a0_lists a0_colours a0_shades a0_tints a0_attempt a0_taken a0_isApart a0_ways a0_next a0_splits a0_powers a0_row a0_many a0_can a0_could a0_arcRow a0_order a0_isOut v0_thrown v0_nodes v0_arcs v0_takenMany v0_leftBits v0_hasPolynomial v0_hasLists w0_colours_2 w0_row) H → va_D A (wd_Mo_keepColours cI cJ cG cZ a0 a0_from a0_to a0_near a0_lists a0_colours a0_shades a0_tints a0_attempt a0_taken a0_isApart a0_ways a0_next a0_splits a0_powers a0_row a0_many a0_can a0_could a0_arcRow a0_order a0_isOut v0_thrown v0_nodes v0_arcs v0_takenMany v0_leftBits v0_hasPolynomial v0_hasLists w0_colours_2 w0_row) → va_S A s.heap H locs → W p l e (headSpec us_Mo_keepColours rm_Mo_keepColours).room s m ([.ref a0, .int p1] : List Value).toArray below meth c H locs 0 0 (MQ below (va_Qv (fun (_ : Unit) => True) (fun _ t => PoS (dC, dI) (tyL cI cJ cG cZ) (wd_Mo_keepColours cI cJ cG cZ a0 a0_from a0_to a0_near a0_lists a0_colours a0_shades a0_tints a0_attempt a0_taken a0_isApart a0_ways a0_next a0_splits a0_powers a0_row a0_many a0_can a0_could a0_arcRow a0_order a0_isOut v0_thrown v0_nodes v0_arcs v0_takenMany v0_leftBits v0_hasPolynomial v0_hasLists o_w0_colours w0_row) A t) A) ([.ref a0, .int p1] : List Value).toArray s 0 0 A) (F0 m 34 ls [.int x2_1, .ref a0_colours]) := by
      intro ls H locs hm hl hP hD hS
      have hm := jn0 hJ_34 hm
      refine lv_iconst (v := (-1)) hx hb d_Mo_keepColours_34 (by decide) ?_
      exact jp_35 _ ls H locs hm (lv_sub hl [0, 1, 2] rfl) hP hD hS
    clear hJ_34
    refine lv_if_eq (tgt := 34) hx hb d_Mo_keepColours_14 (by decide) (fun c_7 => ?_) (fun c_7 => ?_)
    · have hm := ite_t c_7 hm
      exact jp_34 ls H locs hm (lv_sub hl [0, 1, 2] rfl) hP hD hS
    · have hm := ite_f c_7 hm
      refine lv_iload_n hx hb d_Mo_keepColours_17 rfl (lv_at hl 2 rfl) ?_
      refine lv_aload_n hx hb d_Mo_keepColours_18 rfl (lv_at hl 0 rfl) ?_
      refine va_get (D := (dC, dI)) (ci := 8) (v := .int v0_nodes) (C := R_Mo) (T := T_Mo) (N := 28) hx hb htt hin_Mo hown hK hP 0 rfl rfl 1 (by decide) (htt _ kt_770) (fun _ h9 => h9) rfl d_Mo_keepColours_19 ?_
      refine lv_icmp_ge (tgt := 34) hx hb d_Mo_keepColours_22 (by decide) (fun c_8 => ?_) (fun c_8 => ?_)
      · have hm := ite_t c_8 hm
        exact jp_34 ls H locs hm (lv_sub hl [0, 1, 2] rfl) hP hD hS
      · have hm := ite_f c_8 hm
        refine lv_aload_n hx hb d_Mo_keepColours_25 rfl (lv_at hl 0 rfl) ?_
        refine va_get (D := (dC, dI)) (ci := 8) (v := .ref a0_row) (C := R_Mo) (T := T_Mo) (N := 28) hx hb htt hin_Mo hown hK hP 0 rfl rfl 19 (by decide) (htt _ kt_788) (fun _ h9 => h9) rfl d_Mo_keepColours_26 ?_
        refine lv_iload_n hx hb d_Mo_keepColours_29 rfl (lv_at hl 2 rfl) ?_
        obtain ⟨hi_9, hm⟩ := gC_e hm
        refine va_iald hx hb hK hP 2 0 rfl rfl (inb_vp hi_9) d_Mo_keepColours_30 ?_
        refine lv_goto (tgt := 35) hx hb d_Mo_keepColours_31 (by decide) ?_
        exact jp_35 _ ls H locs hm (lv_sub hl [0, 1, 2] rfl) hP hD hS
theorem d_Mo_least_0 : decode prog_10_method_15_code 0 = .ok (.aload_n 0, 1) := by decide +kernel
theorem d_Mo_least_1 : decode prog_10_method_15_code 1 = .ok (.iconst 0, 1) := by decide +kernel
theorem d_Mo_least_2 : decode prog_10_method_15_code 2 = .ok (.putfield 79, 3) := by decide +kernel
theorem d_Mo_least_5 : decode prog_10_method_15_code 5 = .ok (.iconst 0, 1) := by decide +kernel
theorem d_Mo_least_6 : decode prog_10_method_15_code 6 = .ok (.istore_n 1, 1) := by decide +kernel
theorem d_Mo_least_7 : decode prog_10_method_15_code 7 = .ok (.aload_n 0, 1) := by decide +kernel
theorem d_Mo_least_8 : decode prog_10_method_15_code 8 = .ok (.iload_n 1, 1) := by decide +kernel
theorem d_Mo_least_9 : decode prog_10_method_15_code 9 = .ok (.iconst 0, 1) := by decide +kernel
theorem d_Mo_least_10 : decode prog_10_method_15_code 10 = .ok (.invokevirtual 112, 3) := by decide +kernel
theorem d_Mo_least_13 : decode prog_10_method_15_code 13 = .ok (.ifCond .ne 9, 3) := by decide +kernel
theorem d_Mo_least_16 : decode prog_10_method_15_code 16 = .ok (.iinc 1 1, 3) := by decide +kernel
theorem d_Mo_least_19 : decode prog_10_method_15_code 19 = .ok (.goto (-12), 3) := by decide +kernel
theorem d_Mo_least_22 : decode prog_10_method_15_code 22 = .ok (.aload_n 0, 1) := by decide +kernel
theorem d_Mo_least_23 : decode prog_10_method_15_code 23 = .ok (.iconst 1, 1) := by decide +kernel
theorem d_Mo_least_24 : decode prog_10_method_15_code 24 = .ok (.invokevirtual 116, 3) := by decide +kernel
theorem d_Mo_least_27 : decode prog_10_method_15_code 27 = .ok (.iload_n 1, 1) := by decide +kernel
theorem d_Mo_least_28 : decode prog_10_method_15_code 28 = .ok (.ireturn, 1) := by decide +kernel
abbrev wd_Mo_least (cI cJ cG cZ : ClassId) (a0 a0_from a0_to a0_near a0_lists a0_colours a0_shades a0_tints a0_attempt a0_taken a0_isApart a0_ways a0_next a0_splits a0_powers a0_row a0_many a0_can a0_could a0_arcRow a0_order a0_isOut : Nat) (v0_thrown : Int32) (v0_nodes : Int32) (v0_arcs : Int32) (v0_takenMany : Int32) (v0_leftBits : Int32) (v0_hasPolynomial : Int32) (v0_hasLists : Int32) (w0_near : Nat → Int32) (w0_colours : Nat → Int32) (w0_row : Nat → Int32) (w0_many : Nat → Int32) : va_W := [(a0, .inr (8, [.int v0_thrown, .int v0_nodes, .int v0_arcs, .ref a0_from, .ref a0_to, .ref a0_near, .ref a0_lists, .ref a0_colours, .ref a0_shades, .ref a0_tints, .ref a0_attempt, .int v0_takenMany, .ref a0_taken, .int v0_leftBits, .ref a0_isApart, .ref a0_ways, .ref a0_next, .ref a0_splits, .ref a0_powers, .ref a0_row, .ref a0_many, .int v0_hasPolynomial, .int v0_hasLists, .ref a0_can, .ref a0_could, .ref a0_arcRow, .ref a0_order, .ref a0_isOut])), (a0_near, .inl (cI, 12, .inl w0_near)), (a0_colours, .inl (cI, 12, .inl w0_colours)), (a0_row, .inl (cI, 12, .inl w0_row)), (a0_many, .inl (cI, 12, .inl w0_many))]
abbrev us_Mo_least : List Cond := .code y_Mo_least prog_10_method_15_code 2 (some .int) :: gtbl
abbrev rm_Mo_least : Room := { frames := 2, cells := 0, slots := 0, locals := 52 }
def m_Mo_least (F : Nat) (v0_thrown : Int32) (v0_nodes : Int32) (v0_arcs : Int32) (v0_takenMany : Int32) (v0_leftBits : Int32) (v0_hasPolynomial : Int32) (v0_hasLists : Int32) (w0_near : Nat → Int32) (w0_colours : Nat → Int32) (w0_row : Nat → Int32) (w0_many : Nat → Int32) : Option (Int32 × Int32 × (Nat → Int32) × (Nat → Int32) × (Nat → Int32)) :=
  gL (fun (k_7 : (Int32 × (Nat → Int32) × (Nat → Int32)) → Option (Int32 × Int32 × (Nat → Int32) × (Nat → Int32) × (Nat → Int32))) (z_7 : Int32 × (Nat → Int32) × (Nat → Int32)) => match z_7 with
  | (x1_1, w0_row_2, w0_many_3) =>
  gM (m_Mo_search F 0 v0_nodes v0_arcs v0_takenMany v0_leftBits v0_hasPolynomial v0_hasLists w0_near w0_row_2 w0_many_3 x1_1 (0 : Int32)) (fun (z_8 : Int32 × (Nat → Int32) × (Nat → Int32)) => match z_8 with
  | (q_4, w0_row_5, w0_many_6) =>
  if q_4 = 0 then (
    gB (x1_1 + 1) (fun x1_14 =>
    k_7 (x1_14, w0_row_5, w0_many_6))
  ) else (
    gM (m_Mo_keepColours F 0 v0_nodes v0_arcs v0_takenMany v0_leftBits v0_hasPolynomial v0_hasLists w0_colours w0_row_5 (1 : Int32)) (fun w0_colours_12 =>
    some (x1_1, 0, w0_colours_12, w0_row_5, w0_many_6))
  ))
  ) F (0, w0_row, w0_many)
set_option maxHeartbeats 4000000 in
set_option maxRecDepth 100000 in
theorem c_Mo_least (l : Launch) (dC : Nat → ClassId) (dI : Nat → Nat → Nat) (cI cJ cG cZ : ClassId) (a0 a0_from a0_to a0_near a0_lists a0_colours a0_shades a0_tints a0_attempt a0_taken a0_isApart a0_ways a0_next a0_splits a0_powers a0_row a0_many a0_can a0_could a0_arcRow a0_order a0_isOut : Nat) (sz : Nat) (F : Nat) (v0_thrown : Int32) (v0_nodes : Int32) (v0_arcs : Int32) (v0_takenMany : Int32) (v0_leftBits : Int32) (v0_hasPolynomial : Int32) (v0_hasLists : Int32) (w0_near : Nat → Int32) (w0_colours : Nat → Int32) (w0_row : Nat → Int32) (w0_many : Nat → Int32) (ret : Int32) (o_v0_thrown : Int32) (o_w0_colours : Nat → Int32) (o_w0_row : Nat → Int32) (o_w0_many : Nat → Int32) (hm : m_Mo_least F v0_thrown v0_nodes v0_arcs v0_takenMany v0_leftBits v0_hasPolynomial v0_hasLists w0_near w0_colours w0_row w0_many = some (ret, o_v0_thrown, o_w0_colours, o_w0_row, o_w0_many)) : Met l y_Mo_least us_Mo_least rm_Mo_least (PcS (dC, dI) (tyL cI cJ cG cZ) [.ref a0] sz (wd_Mo_least cI cJ cG cZ a0 a0_from a0_to a0_near a0_lists a0_colours a0_shades a0_tints a0_attempt a0_taken a0_isApart a0_ways a0_next a0_splits a0_powers a0_row a0_many a0_can a0_could a0_arcRow a0_order a0_isOut v0_thrown v0_nodes v0_arcs v0_takenMany v0_leftBits v0_hasPolynomial v0_hasLists w0_near w0_colours w0_row w0_many)) (va_Qi (fun (r : Int32) (_ : Unit) => ret = r) (fun _ t => PoS (dC, dI) (tyL cI cJ cG cZ) (wd_Mo_least cI cJ cG cZ a0 a0_from a0_to a0_near a0_lists a0_colours a0_shades a0_tints a0_attempt a0_taken a0_isApart a0_ways a0_next a0_splits a0_powers a0_row a0_many a0_can a0_could a0_arcRow a0_order a0_isOut o_v0_thrown v0_nodes v0_arcs v0_takenMany v0_leftBits v0_hasPolynomial v0_hasLists w0_near o_w0_colours o_w0_row o_w0_many) (va_A (wd_Mo_least cI cJ cG cZ a0 a0_from a0_to a0_near a0_lists a0_colours a0_shades a0_tints a0_attempt a0_taken a0_isApart a0_ways a0_next a0_splits a0_powers a0_row a0_many a0_can a0_could a0_arcRow a0_order a0_isOut v0_thrown v0_nodes v0_arcs v0_takenMany v0_leftBits v0_hasPolynomial v0_hasLists w0_near w0_colours w0_row w0_many) sz) t) (va_A (wd_Mo_least cI cJ cG cZ a0 a0_from a0_to a0_near a0_lists a0_colours a0_shades a0_tints a0_attempt a0_taken a0_isApart a0_ways a0_next a0_splits a0_powers a0_row a0_many a0_can a0_could a0_arcRow a0_order a0_isOut v0_thrown v0_nodes v0_arcs v0_takenMany v0_leftBits v0_hasPolynomial v0_hasLists w0_near w0_colours w0_row w0_many) sz)) 0 0 (va_A (wd_Mo_least cI cJ cG cZ a0 a0_from a0_to a0_near a0_lists a0_colours a0_shades a0_tints a0_attempt a0_taken a0_isApart a0_ways a0_next a0_splits a0_powers a0_row a0_many a0_can a0_could a0_arcRow a0_order a0_isOut v0_thrown v0_nodes v0_arcs v0_takenMany v0_leftBits v0_hasPolynomial v0_hasLists w0_near w0_colours w0_row w0_many) sz) := by
  refine Met.ofW (cc := prog_10_method_15_code) (maxL := 2) (ret := (some .int)) (by decide) rfl ?_
  intro p e s m args below meth c s₁ B hml hv
  obtain ⟨rfl, hsz, hP, hK, hD0, hNw⟩ := hv
  have hx := B.exec
  have hb := B.bytes
  have hr := B.returns
  have htt : ∀ w ∈ gtbl, w.before _ s = true := fun w h => atoms_spec (ws := us_Mo_least) B.pre w (List.mem_cons_of_mem _ h)
  have hown : s.vm.findClass R_Mo = some m.cls := findClass_of_methodNamed B.named
  have hlocks := B.notSynchronized
  subst hsz
  have hD := hD0.self (sz := s.heap.size)
  generalize hAe : va_A (wd_Mo_least cI cJ cG cZ a0 a0_from a0_to a0_near a0_lists a0_colours a0_shades a0_tints a0_attempt a0_taken a0_isApart a0_ways a0_next a0_splits a0_powers a0_row a0_many a0_can a0_could a0_arcRow a0_order a0_isOut v0_thrown v0_nodes v0_arcs v0_takenMany v0_leftBits v0_hasPolynomial v0_hasLists w0_near w0_colours w0_row w0_many) s.heap.size = A at hD ⊢
  have hA : ∀ q : Nat, s.heap.size ≤ q → A q := fun q h => by rw [← hAe]; exact Or.inr h
  clear hAe hD0
  have hS : va_S A s.heap s.heap [] := va_S.rf
  have hl := lv_entry ([.ref a0]) (n := 2) (Nat.le_of_ble_eq_true rfl)
  rw [lg_entry_eq]
  generalize (lg_sl ([.ref a0]) ++ List.replicate (2 - (lg_sl ([.ref a0])).length) Slot.unset).toArray = ls at hl ⊢
  have hl : lv_has ls 2 [(0, .ref a0)] := hl
  generalize hH : s.heap = H at hP ⊢
  have hS : va_S A s.heap H [] := hH ▸ hS
  generalize hLo : ([] : List Loc) = locs at hS ⊢
  clear hH hLo
  unfold m_Mo_least at hm
  refine lv_aload_n hx hb d_Mo_least_0 rfl (lv_at hl 0 rfl) ?_
  refine lv_iconst (v := 0) hx hb d_Mo_least_1 (by decide) ?_
  refine va_put (D := (dC, dI)) (ci := 8) (v := .int 0) (ty := .int) (C := R_Mo) (T := T_Mo) (N := 28) hx hb htt hin_Mo ty_Mo tyok_Mo nm_Mo hown hK hP hD hS 0 rfl rfl 0 (by decide) (htt _ kt_769) (fun _ h9 => h9) rfl (by decide +kernel) rfl rfl (Nat.le_of_ble_eq_true rfl) d_Mo_least_2 (fun H locs hP hD hS => ?_)
  have hP : va_P (dC, dI) vwCl (wd_Mo_least cI cJ cG cZ a0 a0_from a0_to a0_near a0_lists a0_colours a0_shades a0_tints a0_attempt a0_taken a0_isApart a0_ways a0_next a0_splits a0_powers a0_row a0_many a0_can a0_could a0_arcRow a0_order a0_isOut 0 v0_nodes v0_arcs v0_takenMany v0_leftBits v0_hasPolynomial v0_hasLists w0_near w0_colours w0_row w0_many) H := hP
  have hD : va_D A (wd_Mo_least cI cJ cG cZ a0 a0_from a0_to a0_near a0_lists a0_colours a0_shades a0_tints a0_attempt a0_taken a0_isApart a0_ways a0_next a0_splits a0_powers a0_row a0_many a0_can a0_could a0_arcRow a0_order a0_isOut 0 v0_nodes v0_arcs v0_takenMany v0_leftBits v0_hasPolynomial v0_hasLists w0_near w0_colours w0_row w0_many) := hD
  refine lv_iconst (v := 0) hx hb d_Mo_least_5 (by decide) ?_
  refine lv_istore_n (lv' := [(1, .int 0), (0, .ref a0)]) hx hb d_Mo_least_6 rfl hl (by decide) rfl (fun ls hl => ?_)
  refine gL_e (P := (fun (z_7 : Int32 × (Nat → Int32) × (Nat → Int32)) => ∀ (x1_1 : Int32), ∀ (w0_row_2 : Nat → Int32), ∀ (w0_many_3 : Nat → Int32), z_7 = (x1_1, w0_row_2, w0_many_3) → ∀ (ls : Array Slot) (H : Heap) (locs : List Loc), lv_has ls 2 [(0, .ref a0), (1, .int x1_1)] → va_P (dC, dI) vwCl (wd_Mo_least cI cJ cG cZ a0 a0_from a0_to a0_near a0_lists a0_colours a0_shades a0_tints a0_attempt a0_taken a0_isApart a0_ways a0_next a0_splits a0_powers a0_row a0_many a0_can a0_could a0_arcRow a0_order a0_isOut 0 v0_nodes v0_arcs v0_takenMany v0_leftBits v0_hasPolynomial v0_hasLists w0_near w0_colours w0_row_2 w0_many_3) H → va_D A (wd_Mo_least cI cJ cG cZ a0 a0_from a0_to a0_near a0_lists a0_colours a0_shades a0_tints a0_attempt a0_taken a0_isApart a0_ways a0_next a0_splits a0_powers a0_row a0_many a0_can a0_could a0_arcRow a0_order a0_isOut 0 v0_nodes v0_arcs v0_takenMany v0_leftBits v0_hasPolynomial v0_hasLists w0_near w0_colours w0_row_2 w0_many_3) → va_S A s.heap H locs → W p l e (headSpec us_Mo_least rm_Mo_least).room s m ([.ref a0] : List Value).toArray below meth c H locs 0 0 (MQ below (va_Qi (fun (r : Int32) (_ : Unit) => ret = r) (fun _ t => PoS (dC, dI) (tyL cI cJ cG cZ) (wd_Mo_least cI cJ cG cZ a0 a0_from a0_to a0_near a0_lists a0_colours a0_shades a0_tints a0_attempt a0_taken a0_isApart a0_ways a0_next a0_splits a0_powers a0_row a0_many a0_can a0_could a0_arcRow a0_order a0_isOut o_v0_thrown v0_nodes v0_arcs v0_takenMany v0_leftBits v0_hasPolynomial v0_hasLists w0_near o_w0_colours o_w0_row o_w0_many) A t) A) ([.ref a0] : List Value).toArray s 0 0 A) (F0 m 7 ls []))) hm (fun k_7 z_7 ih_7 hm => ?_) _ _ _ rfl ls H locs (lv_sub hl [1, 0] rfl) hP hD hS
  intro x1_1 w0_row_2 w0_many_3 hz ls H locs hl hP hD hS
  subst hz
  dsimp only at hm
  refine lv_aload_n hx hb d_Mo_least_7 rfl (lv_at hl 0 rfl) ?_
  refine lv_iload_n hx hb d_Mo_least_8 rfl (lv_at hl 1 rfl) ?_
  refine lv_iconst (v := 0) hx hb d_Mo_least_9 (by decide) ?_
  obtain ⟨⟨q_4, w0_row_5, w0_many_6⟩, hc_7, hm⟩ := gM_e hm
  dsimp only at hm
  have hPc : va_P (dC, dI) vwCl (wd_Mo_search cI cJ cG cZ a0 a0_from a0_to a0_near a0_lists a0_colours a0_shades a0_tints a0_attempt a0_taken a0_isApart a0_ways a0_next a0_splits a0_powers a0_row a0_many a0_can a0_could a0_arcRow a0_order a0_isOut 0 v0_nodes v0_arcs v0_takenMany v0_leftBits v0_hasPolynomial v0_hasLists w0_near w0_row_2 w0_many_3) H := hP.sub [0, 1, 3, 4] rfl
  have hDc : va_D A (wd_Mo_search cI cJ cG cZ a0 a0_from a0_to a0_near a0_lists a0_colours a0_shades a0_tints a0_attempt a0_taken a0_isApart a0_ways a0_next a0_splits a0_powers a0_row a0_many a0_can a0_could a0_arcRow a0_order a0_isOut 0 v0_nodes v0_arcs v0_takenMany v0_leftBits v0_hasPolynomial v0_hasLists w0_near w0_row_2 w0_many_3) := hD.sub [0, 1, 3, 4] (by decide) rfl
  have hFc : ∀ q, va_A (wd_Mo_search cI cJ cG cZ a0 a0_from a0_to a0_near a0_lists a0_colours a0_shades a0_tints a0_attempt a0_taken a0_isApart a0_ways a0_next a0_splits a0_powers a0_row a0_many a0_can a0_could a0_arcRow a0_order a0_isOut 0 v0_nodes v0_arcs v0_takenMany v0_leftBits v0_hasPolynomial v0_hasLists w0_near w0_row_2 w0_many_3) H.size q → A q := va_free hD hS hA [0, 1, 3, 4] rfl
  refine va_calli (va_runV (As := [.int x1_1, .int 0]) (rest := []) ⟨hx, hb, hml, hown, htt⟩ (c_Mo_search l dC dI cI cJ cG cZ a0 a0_from a0_to a0_near a0_lists a0_colours a0_shades a0_tints a0_attempt a0_taken a0_isApart a0_ways a0_next a0_splits a0_powers a0_row a0_many a0_can a0_could a0_arcRow a0_order a0_isOut H.size F 0 v0_nodes v0_arcs v0_takenMany v0_leftBits v0_hasPolynomial v0_hasLists w0_near w0_row_2 w0_many_3 x1_1 (0 : Int32) q_4 w0_row_5 w0_many_6 hc_7) (cwV 2 htt (gdV kt_880 kt_882 kp_44 kt_10 kt_883) rfl rfl rfl (by decide +kernel) ⟨(Nat.le_of_ble_eq_true rfl), (Nat.le_of_ble_eq_true rfl)⟩) ⟨PcS_blind, va_recv hK hPc (ci := 8) (q0 := 0) rfl rfl, PcS_in hPc hK hDc hNw⟩ rfl rfl hl.1 rfl (lv_room (Nat.le_of_ble_eq_true rfl)) d_Mo_least_10 ⟨Nat.zero_le _, Nat.zero_le _⟩) hS (fun q _ h => hFc q h) hFc (fun r_9 u t H1 locs ht hvm hw hB hz1 hk1 hS => ?_)
  obtain ⟨hP1, hK1, hD1⟩ := hB
  rw [ht] at hP1
  obtain ⟨hw, hz_10⟩ := hw
  subst hw
  obtain ⟨hP, hD⟩ := va_join (wr := [(a0_colours, .inl (cI, 12, .inl w0_colours))]) (w1 := (wd_Mo_search cI cJ cG cZ a0 a0_from a0_to a0_near a0_lists a0_colours a0_shades a0_tints a0_attempt a0_taken a0_isApart a0_ways a0_next a0_splits a0_powers a0_row a0_many a0_can a0_could a0_arcRow a0_order a0_isOut 0 v0_nodes v0_arcs v0_takenMany v0_leftBits v0_hasPolynomial v0_hasLists w0_near w0_row_5 w0_many_6)) hP hD [0, 1, 3, 4] [2] rfl rfl (by decide) (by decide) hk1 hFc hP1 hD1
  have hP : va_P (dC, dI) vwCl (wd_Mo_least cI cJ cG cZ a0 a0_from a0_to a0_near a0_lists a0_colours a0_shades a0_tints a0_attempt a0_taken a0_isApart a0_ways a0_next a0_splits a0_powers a0_row a0_many a0_can a0_could a0_arcRow a0_order a0_isOut 0 v0_nodes v0_arcs v0_takenMany v0_leftBits v0_hasPolynomial v0_hasLists w0_near w0_colours w0_row_5 w0_many_6) H1 := hP.sub [1, 2, 0, 3, 4] rfl
  have hD : va_D A (wd_Mo_least cI cJ cG cZ a0 a0_from a0_to a0_near a0_lists a0_colours a0_shades a0_tints a0_attempt a0_taken a0_isApart a0_ways a0_next a0_splits a0_powers a0_row a0_many a0_can a0_could a0_arcRow a0_order a0_isOut 0 v0_nodes v0_arcs v0_takenMany v0_leftBits v0_hasPolynomial v0_hasLists w0_near w0_colours w0_row_5 w0_many_6) := hD.sub [1, 2, 0, 3, 4] (by decide) rfl
  clear hP1 hK1 hD1 hk1 hPc hDc hFc ht hvm hz1
  generalize H1 = H at hP hS ⊢
  refine lv_if_ne (tgt := 22) hx hb d_Mo_least_13 (by decide) (fun c_11 => ?_) (fun c_11 => ?_)
  · have hm := ite_f c_11 hm
    refine lv_aload_n hx hb d_Mo_least_22 rfl (lv_at hl 0 rfl) ?_
    refine lv_iconst (v := 1) hx hb d_Mo_least_23 (by decide) ?_
    obtain ⟨w0_colours_12, hc_13, hm⟩ := gM_e hm
    have hPc : va_P (dC, dI) vwCl (wd_Mo_keepColours cI cJ cG cZ a0 a0_from a0_to a0_near a0_lists a0_colours a0_shades a0_tints a0_attempt a0_taken a0_isApart a0_ways a0_next a0_splits a0_powers a0_row a0_many a0_can a0_could a0_arcRow a0_order a0_isOut 0 v0_nodes v0_arcs v0_takenMany v0_leftBits v0_hasPolynomial v0_hasLists w0_colours w0_row_5) H := hP.sub [0, 2, 3] rfl
    have hDc : va_D A (wd_Mo_keepColours cI cJ cG cZ a0 a0_from a0_to a0_near a0_lists a0_colours a0_shades a0_tints a0_attempt a0_taken a0_isApart a0_ways a0_next a0_splits a0_powers a0_row a0_many a0_can a0_could a0_arcRow a0_order a0_isOut 0 v0_nodes v0_arcs v0_takenMany v0_leftBits v0_hasPolynomial v0_hasLists w0_colours w0_row_5) := hD.sub [0, 2, 3] (by decide) rfl
    have hFc : ∀ q, va_A (wd_Mo_keepColours cI cJ cG cZ a0 a0_from a0_to a0_near a0_lists a0_colours a0_shades a0_tints a0_attempt a0_taken a0_isApart a0_ways a0_next a0_splits a0_powers a0_row a0_many a0_can a0_could a0_arcRow a0_order a0_isOut 0 v0_nodes v0_arcs v0_takenMany v0_leftBits v0_hasPolynomial v0_hasLists w0_colours w0_row_5) H.size q → A q := va_free hD hS hA [0, 2, 3] rfl
    refine va_callv (va_runV (As := [.int 1]) (rest := []) ⟨hx, hb, hml, hown, htt⟩ (c_Mo_keepColours l dC dI cI cJ cG cZ a0 a0_from a0_to a0_near a0_lists a0_colours a0_shades a0_tints a0_attempt a0_taken a0_isApart a0_ways a0_next a0_splits a0_powers a0_row a0_many a0_can a0_could a0_arcRow a0_order a0_isOut H.size F 0 v0_nodes v0_arcs v0_takenMany v0_leftBits v0_hasPolynomial v0_hasLists w0_colours w0_row_5 (1 : Int32) w0_colours_12 hc_13) (cwV 1 htt (gdV kt_896 kt_898 kp_48 kt_10 kt_899) rfl rfl rfl (by decide +kernel) ⟨(Nat.le_of_ble_eq_true rfl), (Nat.le_of_ble_eq_true rfl)⟩) ⟨PcS_blind, va_recv hK hPc (ci := 8) (q0 := 0) rfl rfl, PcS_in hPc hK hDc hNw⟩ rfl rfl hl.1 rfl (lv_room (Nat.le_of_ble_eq_true rfl)) d_Mo_least_24 ⟨Nat.zero_le _, Nat.zero_le _⟩) hS (fun q _ h => hFc q h) hFc (fun u t H1 locs ht hvm hw hB hz1 hk1 hS => ?_)
    obtain ⟨hP1, hK1, hD1⟩ := hB
    rw [ht] at hP1
    obtain ⟨hP, hD⟩ := va_join (wr := [(a0_near, .inl (cI, 12, .inl w0_near)), (a0_many, .inl (cI, 12, .inl w0_many_6))]) (w1 := (wd_Mo_keepColours cI cJ cG cZ a0 a0_from a0_to a0_near a0_lists a0_colours a0_shades a0_tints a0_attempt a0_taken a0_isApart a0_ways a0_next a0_splits a0_powers a0_row a0_many a0_can a0_could a0_arcRow a0_order a0_isOut 0 v0_nodes v0_arcs v0_takenMany v0_leftBits v0_hasPolynomial v0_hasLists w0_colours_12 w0_row_5)) hP hD [0, 2, 3] [1, 4] rfl rfl (by decide) (by decide) hk1 hFc hP1 hD1
    have hP : va_P (dC, dI) vwCl (wd_Mo_least cI cJ cG cZ a0 a0_from a0_to a0_near a0_lists a0_colours a0_shades a0_tints a0_attempt a0_taken a0_isApart a0_ways a0_next a0_splits a0_powers a0_row a0_many a0_can a0_could a0_arcRow a0_order a0_isOut 0 v0_nodes v0_arcs v0_takenMany v0_leftBits v0_hasPolynomial v0_hasLists w0_near w0_colours_12 w0_row_5 w0_many_6) H1 := hP.sub [2, 0, 3, 4, 1] rfl
    have hD : va_D A (wd_Mo_least cI cJ cG cZ a0 a0_from a0_to a0_near a0_lists a0_colours a0_shades a0_tints a0_attempt a0_taken a0_isApart a0_ways a0_next a0_splits a0_powers a0_row a0_many a0_can a0_could a0_arcRow a0_order a0_isOut 0 v0_nodes v0_arcs v0_takenMany v0_leftBits v0_hasPolynomial v0_hasLists w0_near w0_colours_12 w0_row_5 w0_many_6) := hD.sub [2, 0, 3, 4, 1] (by decide) rfl
    clear hP1 hK1 hD1 hk1 hPc hDc hFc ht hvm hz1
    generalize H1 = H at hP hS ⊢
    refine lv_iload_n hx hb d_Mo_least_27 rfl (lv_at hl 1 rfl) ?_
    cases hm
    exact W.iret hx hb hr (fun t ht hW => ⟨⟨_, (), rfl, rfl, by rw [ht]; exact hP, va_K.moved hW.alike hK, hD⟩, hS.F ht⟩) hS.2.2 d_Mo_least_28
  · have hm := ite_t c_11 hm
    obtain ⟨x1_14, ex1_14⟩ : ∃ y : Int32, y = x1_1 + 1 := ⟨_, rfl⟩
    have hm := gB_at ex1_14 hm
    refine lv_iinc (v := x1_14) (lv' := [(1, .int x1_14), (0, .ref a0)]) hx hb d_Mo_least_16 hl (k := 1) rfl (by rw [ex1_14]; rfl) (by decide) rfl (fun ls hl => ?_)
    refine lv_goto (tgt := 7) hx hb d_Mo_least_19 (by decide) ?_
    exact ih_7 _ hm _ _ _ rfl ls H locs (lv_sub hl [1, 0] rfl) hP hD hS
theorem d_Mo_even_0 : decode prog_10_method_16_code 0 = .ok (.aload_n 0, 1) := by decide +kernel
theorem d_Mo_even_1 : decode prog_10_method_16_code 1 = .ok (.iconst 0, 1) := by decide +kernel
theorem d_Mo_even_2 : decode prog_10_method_16_code 2 = .ok (.putfield 79, 3) := by decide +kernel
theorem d_Mo_even_5 : decode prog_10_method_16_code 5 = .ok (.iload_n 1, 1) := by decide +kernel
theorem d_Mo_even_6 : decode prog_10_method_16_code 6 = .ok (.iconst 1, 1) := by decide +kernel
theorem d_Mo_even_7 : decode prog_10_method_16_code 7 = .ok (.if_icmp .lt 9, 3) := by decide +kernel
theorem d_Mo_even_10 : decode prog_10_method_16_code 10 = .ok (.iload_n 1, 1) := by decide +kernel
theorem d_Mo_even_11 : decode prog_10_method_16_code 11 = .ok (.bipush 12, 2) := by decide +kernel
theorem d_Mo_even_13 : decode prog_10_method_16_code 13 = .ok (.if_icmp .le 5, 3) := by decide +kernel
theorem d_Mo_even_16 : decode prog_10_method_16_code 16 = .ok (.iconst (-1), 1) := by decide +kernel
theorem d_Mo_even_17 : decode prog_10_method_16_code 17 = .ok (.ireturn, 1) := by decide +kernel
theorem d_Mo_even_18 : decode prog_10_method_16_code 18 = .ok (.aload_n 0, 1) := by decide +kernel
theorem d_Mo_even_19 : decode prog_10_method_16_code 19 = .ok (.iload_n 1, 1) := by decide +kernel
theorem d_Mo_even_20 : decode prog_10_method_16_code 20 = .ok (.iconst 1, 1) := by decide +kernel
theorem d_Mo_even_21 : decode prog_10_method_16_code 21 = .ok (.invokevirtual 112, 3) := by decide +kernel
theorem d_Mo_even_24 : decode prog_10_method_16_code 24 = .ok (.istore_n 2, 1) := by decide +kernel
theorem d_Mo_even_25 : decode prog_10_method_16_code 25 = .ok (.aload_n 0, 1) := by decide +kernel
theorem d_Mo_even_26 : decode prog_10_method_16_code 26 = .ok (.iload_n 2, 1) := by decide +kernel
theorem d_Mo_even_27 : decode prog_10_method_16_code 27 = .ok (.invokevirtual 116, 3) := by decide +kernel
theorem d_Mo_even_30 : decode prog_10_method_16_code 30 = .ok (.iload_n 2, 1) := by decide +kernel
theorem d_Mo_even_31 : decode prog_10_method_16_code 31 = .ok (.ifCond .eq 7, 3) := by decide +kernel
theorem d_Mo_even_34 : decode prog_10_method_16_code 34 = .ok (.iconst 1, 1) := by decide +kernel
theorem d_Mo_even_35 : decode prog_10_method_16_code 35 = .ok (.goto 4, 3) := by decide +kernel
theorem d_Mo_even_38 : decode prog_10_method_16_code 38 = .ok (.iconst 0, 1) := by decide +kernel
theorem d_Mo_even_39 : decode prog_10_method_16_code 39 = .ok (.ireturn, 1) := by decide +kernel
abbrev wd_Mo_even (cI cJ cG cZ : ClassId) (a0 a0_from a0_to a0_near a0_lists a0_colours a0_shades a0_tints a0_attempt a0_taken a0_isApart a0_ways a0_next a0_splits a0_powers a0_row a0_many a0_can a0_could a0_arcRow a0_order a0_isOut : Nat) (v0_thrown : Int32) (v0_nodes : Int32) (v0_arcs : Int32) (v0_takenMany : Int32) (v0_leftBits : Int32) (v0_hasPolynomial : Int32) (v0_hasLists : Int32) (w0_near : Nat → Int32) (w0_colours : Nat → Int32) (w0_row : Nat → Int32) (w0_many : Nat → Int32) : va_W := [(a0, .inr (8, [.int v0_thrown, .int v0_nodes, .int v0_arcs, .ref a0_from, .ref a0_to, .ref a0_near, .ref a0_lists, .ref a0_colours, .ref a0_shades, .ref a0_tints, .ref a0_attempt, .int v0_takenMany, .ref a0_taken, .int v0_leftBits, .ref a0_isApart, .ref a0_ways, .ref a0_next, .ref a0_splits, .ref a0_powers, .ref a0_row, .ref a0_many, .int v0_hasPolynomial, .int v0_hasLists, .ref a0_can, .ref a0_could, .ref a0_arcRow, .ref a0_order, .ref a0_isOut])), (a0_near, .inl (cI, 12, .inl w0_near)), (a0_colours, .inl (cI, 12, .inl w0_colours)), (a0_row, .inl (cI, 12, .inl w0_row)), (a0_many, .inl (cI, 12, .inl w0_many))]
abbrev us_Mo_even : List Cond := .code y_Mo_even prog_10_method_16_code 3 (some .int) :: gtbl
abbrev rm_Mo_even : Room := { frames := 2, cells := 0, slots := 0, locals := 52 }
def m_Mo_even (F : Nat) (v0_thrown : Int32) (v0_nodes : Int32) (v0_arcs : Int32) (v0_takenMany : Int32) (v0_leftBits : Int32) (v0_hasPolynomial : Int32) (v0_hasLists : Int32) (w0_near : Nat → Int32) (w0_colours : Nat → Int32) (w0_row : Nat → Int32) (w0_many : Nat → Int32) (p1 : Int32) : Option (Int32 × Int32 × (Nat → Int32) × (Nat → Int32) × (Nat → Int32)) :=
  if p1 < (1 : Int32) then (
    some ((-1), 0, w0_colours, w0_row, w0_many)
  ) else (
    if p1 ≤ (12 : Int32) then (
      gM (m_Mo_search F 0 v0_nodes v0_arcs v0_takenMany v0_leftBits v0_hasPolynomial v0_hasLists w0_near w0_row w0_many p1 (1 : Int32)) (fun (z_7 : Int32 × (Nat → Int32) × (Nat → Int32)) => match z_7 with
      | (q_3, w0_row_4, w0_many_5) =>
      gM (m_Mo_keepColours F 0 v0_nodes v0_arcs v0_takenMany v0_leftBits v0_hasPolynomial v0_hasLists w0_colours w0_row_4 q_3) (fun w0_colours_10 =>
      if q_3 = 0 then (
        some (0, 0, w0_colours_10, w0_row_4, w0_many_5)
      ) else (
        some (1, 0, w0_colours_10, w0_row_4, w0_many_5)
      )))
    ) else (
      some ((-1), 0, w0_colours, w0_row, w0_many)
    )
  )
set_option maxHeartbeats 4000000 in
set_option maxRecDepth 100000 in
theorem c_Mo_even (l : Launch) (dC : Nat → ClassId) (dI : Nat → Nat → Nat) (cI cJ cG cZ : ClassId) (a0 a0_from a0_to a0_near a0_lists a0_colours a0_shades a0_tints a0_attempt a0_taken a0_isApart a0_ways a0_next a0_splits a0_powers a0_row a0_many a0_can a0_could a0_arcRow a0_order a0_isOut : Nat) (sz : Nat) (F : Nat) (v0_thrown : Int32) (v0_nodes : Int32) (v0_arcs : Int32) (v0_takenMany : Int32) (v0_leftBits : Int32) (v0_hasPolynomial : Int32) (v0_hasLists : Int32) (w0_near : Nat → Int32) (w0_colours : Nat → Int32) (w0_row : Nat → Int32) (w0_many : Nat → Int32) (p1 : Int32) (ret : Int32) (o_v0_thrown : Int32) (o_w0_colours : Nat → Int32) (o_w0_row : Nat → Int32) (o_w0_many : Nat → Int32) (hm : m_Mo_even F v0_thrown v0_nodes v0_arcs v0_takenMany v0_leftBits v0_hasPolynomial v0_hasLists w0_near w0_colours w0_row w0_many p1 = some (ret, o_v0_thrown, o_w0_colours, o_w0_row, o_w0_many)) : Met l y_Mo_even us_Mo_even rm_Mo_even (PcS (dC, dI) (tyL cI cJ cG cZ) [.ref a0, .int p1] sz (wd_Mo_even cI cJ cG cZ a0 a0_from a0_to a0_near a0_lists a0_colours a0_shades a0_tints a0_attempt a0_taken a0_isApart a0_ways a0_next a0_splits a0_powers a0_row a0_many a0_can a0_could a0_arcRow a0_order a0_isOut v0_thrown v0_nodes v0_arcs v0_takenMany v0_leftBits v0_hasPolynomial v0_hasLists w0_near w0_colours w0_row w0_many)) (va_Qi (fun (r : Int32) (_ : Unit) => ret = r) (fun _ t => PoS (dC, dI) (tyL cI cJ cG cZ) (wd_Mo_even cI cJ cG cZ a0 a0_from a0_to a0_near a0_lists a0_colours a0_shades a0_tints a0_attempt a0_taken a0_isApart a0_ways a0_next a0_splits a0_powers a0_row a0_many a0_can a0_could a0_arcRow a0_order a0_isOut o_v0_thrown v0_nodes v0_arcs v0_takenMany v0_leftBits v0_hasPolynomial v0_hasLists w0_near o_w0_colours o_w0_row o_w0_many) (va_A (wd_Mo_even cI cJ cG cZ a0 a0_from a0_to a0_near a0_lists a0_colours a0_shades a0_tints a0_attempt a0_taken a0_isApart a0_ways a0_next a0_splits a0_powers a0_row a0_many a0_can a0_could a0_arcRow a0_order a0_isOut v0_thrown v0_nodes v0_arcs v0_takenMany v0_leftBits v0_hasPolynomial v0_hasLists w0_near w0_colours w0_row w0_many) sz) t) (va_A (wd_Mo_even cI cJ cG cZ a0 a0_from a0_to a0_near a0_lists a0_colours a0_shades a0_tints a0_attempt a0_taken a0_isApart a0_ways a0_next a0_splits a0_powers a0_row a0_many a0_can a0_could a0_arcRow a0_order a0_isOut v0_thrown v0_nodes v0_arcs v0_takenMany v0_leftBits v0_hasPolynomial v0_hasLists w0_near w0_colours w0_row w0_many) sz)) 0 0 (va_A (wd_Mo_even cI cJ cG cZ a0 a0_from a0_to a0_near a0_lists a0_colours a0_shades a0_tints a0_attempt a0_taken a0_isApart a0_ways a0_next a0_splits a0_powers a0_row a0_many a0_can a0_could a0_arcRow a0_order a0_isOut v0_thrown v0_nodes v0_arcs v0_takenMany v0_leftBits v0_hasPolynomial v0_hasLists w0_near w0_colours w0_row w0_many) sz) := by
  refine Met.ofW (cc := prog_10_method_16_code) (maxL := 3) (ret := (some .int)) (by decide) rfl ?_
  intro p e s m args below meth c s₁ B hml hv
  obtain ⟨rfl, hsz, hP, hK, hD0, hNw⟩ := hv
  have hx := B.exec
  have hb := B.bytes
  have hr := B.returns
  have htt : ∀ w ∈ gtbl, w.before _ s = true := fun w h => atoms_spec (ws := us_Mo_even) B.pre w (List.mem_cons_of_mem _ h)
  have hown : s.vm.findClass R_Mo = some m.cls := findClass_of_methodNamed B.named
  have hlocks := B.notSynchronized
  subst hsz
  have hD := hD0.self (sz := s.heap.size)
  generalize hAe : va_A (wd_Mo_even cI cJ cG cZ a0 a0_from a0_to a0_near a0_lists a0_colours a0_shades a0_tints a0_attempt a0_taken a0_isApart a0_ways a0_next a0_splits a0_powers a0_row a0_many a0_can a0_could a0_arcRow a0_order a0_isOut v0_thrown v0_nodes v0_arcs v0_takenMany v0_leftBits v0_hasPolynomial v0_hasLists w0_near w0_colours w0_row w0_many) s.heap.size = A at hD ⊢
  have hA : ∀ q : Nat, s.heap.size ≤ q → A q := fun q h => by rw [← hAe]; exact Or.inr h
  clear hAe hD0
  have hS : va_S A s.heap s.heap [] := va_S.rf
  have hl := lv_entry ([.ref a0, .int p1]) (n := 3) (Nat.le_of_ble_eq_true rfl)
  rw [lg_entry_eq]
  generalize (lg_sl ([.ref a0, .int p1]) ++ List.replicate (3 - (lg_sl ([.ref a0, .int p1])).length) Slot.unset).toArray = ls at hl ⊢
  have hl : lv_has ls 3 [(0, .ref a0), (1, .int p1)] := hl
  generalize hH : s.heap = H at hP ⊢
  have hS : va_S A s.heap H [] := hH ▸ hS
  generalize hLo : ([] : List Loc) = locs at hS ⊢
  clear hH hLo
  unfold m_Mo_even at hm
  refine lv_aload_n hx hb d_Mo_even_0 rfl (lv_at hl 0 rfl) ?_
  refine lv_iconst (v := 0) hx hb d_Mo_even_1 (by decide) ?_
  refine va_put (D := (dC, dI)) (ci := 8) (v := .int 0) (ty := .int) (C := R_Mo) (T := T_Mo) (N := 28) hx hb htt hin_Mo ty_Mo tyok_Mo nm_Mo hown hK hP hD hS 0 rfl rfl 0 (by decide) (htt _ kt_769) (fun _ h9 => h9) rfl (by decide +kernel) rfl rfl (Nat.le_of_ble_eq_true rfl) d_Mo_even_2 (fun H locs hP hD hS => ?_)
  have hP : va_P (dC, dI) vwCl (wd_Mo_even cI cJ cG cZ a0 a0_from a0_to a0_near a0_lists a0_colours a0_shades a0_tints a0_attempt a0_taken a0_isApart a0_ways a0_next a0_splits a0_powers a0_row a0_many a0_can a0_could a0_arcRow a0_order a0_isOut 0 v0_nodes v0_arcs v0_takenMany v0_leftBits v0_hasPolynomial v0_hasLists w0_near w0_colours w0_row w0_many) H := hP
  have hD : va_D A (wd_Mo_even cI cJ cG cZ a0 a0_from a0_to a0_near a0_lists a0_colours a0_shades a0_tints a0_attempt a0_taken a0_isApart a0_ways a0_next a0_splits a0_powers a0_row a0_many a0_can a0_could a0_arcRow a0_order a0_isOut 0 v0_nodes v0_arcs v0_takenMany v0_leftBits v0_hasPolynomial v0_hasLists w0_near w0_colours w0_row w0_many) := hD
  refine lv_iload_n hx hb d_Mo_even_5 rfl (lv_at hl 1 rfl) ?_
  refine lv_iconst (v := 1) hx hb d_Mo_even_6 (by decide) ?_
  refine lv_icmp_lt (tgt := 16) hx hb d_Mo_even_7 (by decide) (fun c_1 => ?_) (fun c_1 => ?_)
  · have hm := ite_t c_1 hm
    refine lv_iconst (v := (-1)) hx hb d_Mo_even_16 (by decide) ?_
    cases hm
    exact W.iret hx hb hr (fun t ht hW => ⟨⟨_, (), rfl, rfl, by rw [ht]; exact hP, va_K.moved hW.alike hK, hD⟩, hS.F ht⟩) hS.2.2 d_Mo_even_17
  · have hm := ite_f c_1 hm
    refine lv_iload_n hx hb d_Mo_even_10 rfl (lv_at hl 1 rfl) ?_
    refine lv_bipush (v := 12) hx hb d_Mo_even_11 (by decide) ?_
    refine lv_icmp_le (tgt := 18) hx hb d_Mo_even_13 (by decide) (fun c_2 => ?_) (fun c_2 => ?_)
    · have hm := ite_t c_2 hm
      refine lv_aload_n hx hb d_Mo_even_18 rfl (lv_at hl 0 rfl) ?_
      refine lv_iload_n hx hb d_Mo_even_19 rfl (lv_at hl 1 rfl) ?_
      refine lv_iconst (v := 1) hx hb d_Mo_even_20 (by decide) ?_
      obtain ⟨⟨q_3, w0_row_4, w0_many_5⟩, hc_6, hm⟩ := gM_e hm
      dsimp only at hm
      have hPc : va_P (dC, dI) vwCl (wd_Mo_search cI cJ cG cZ a0 a0_from a0_to a0_near a0_lists a0_colours a0_shades a0_tints a0_attempt a0_taken a0_isApart a0_ways a0_next a0_splits a0_powers a0_row a0_many a0_can a0_could a0_arcRow a0_order a0_isOut 0 v0_nodes v0_arcs v0_takenMany v0_leftBits v0_hasPolynomial v0_hasLists w0_near w0_row w0_many) H := hP.sub [0, 1, 3, 4] rfl
      have hDc : va_D A (wd_Mo_search cI cJ cG cZ a0 a0_from a0_to a0_near a0_lists a0_colours a0_shades a0_tints a0_attempt a0_taken a0_isApart a0_ways a0_next a0_splits a0_powers a0_row a0_many a0_can a0_could a0_arcRow a0_order a0_isOut 0 v0_nodes v0_arcs v0_takenMany v0_leftBits v0_hasPolynomial v0_hasLists w0_near w0_row w0_many) := hD.sub [0, 1, 3, 4] (by decide) rfl
      have hFc : ∀ q, va_A (wd_Mo_search cI cJ cG cZ a0 a0_from a0_to a0_near a0_lists a0_colours a0_shades a0_tints a0_attempt a0_taken a0_isApart a0_ways a0_next a0_splits a0_powers a0_row a0_many a0_can a0_could a0_arcRow a0_order a0_isOut 0 v0_nodes v0_arcs v0_takenMany v0_leftBits v0_hasPolynomial v0_hasLists w0_near w0_row w0_many) H.size q → A q := va_free hD hS hA [0, 1, 3, 4] rfl
      refine va_calli (va_runV (As := [.int p1, .int 1]) (rest := []) ⟨hx, hb, hml, hown, htt⟩ (c_Mo_search l dC dI cI cJ cG cZ a0 a0_from a0_to a0_near a0_lists a0_colours a0_shades a0_tints a0_attempt a0_taken a0_isApart a0_ways a0_next a0_splits a0_powers a0_row a0_many a0_can a0_could a0_arcRow a0_order a0_isOut H.size F 0 v0_nodes v0_arcs v0_takenMany v0_leftBits v0_hasPolynomial v0_hasLists w0_near w0_row w0_many p1 (1 : Int32) q_3 w0_row_4 w0_many_5 hc_6) (cwV 2 htt (gdV kt_880 kt_882 kp_44 kt_10 kt_883) rfl rfl rfl (by decide +kernel) ⟨(Nat.le_of_ble_eq_true rfl), (Nat.le_of_ble_eq_true rfl)⟩) ⟨PcS_blind, va_recv hK hPc (ci := 8) (q0 := 0) rfl rfl, PcS_in hPc hK hDc hNw⟩ rfl rfl hl.1 rfl (lv_room (Nat.le_of_ble_eq_true rfl)) d_Mo_even_21 ⟨Nat.zero_le _, Nat.zero_le _⟩) hS (fun q _ h => hFc q h) hFc (fun r_8 u t H1 locs ht hvm hw hB hz1 hk1 hS => ?_)
      obtain ⟨hP1, hK1, hD1⟩ := hB
      rw [ht] at hP1
      obtain ⟨hw, hz_9⟩ := hw
      subst hw
      obtain ⟨hP, hD⟩ := va_join (wr := [(a0_colours, .inl (cI, 12, .inl w0_colours))]) (w1 := (wd_Mo_search cI cJ cG cZ a0 a0_from a0_to a0_near a0_lists a0_colours a0_shades a0_tints a0_attempt a0_taken a0_isApart a0_ways a0_next a0_splits a0_powers a0_row a0_many a0_can a0_could a0_arcRow a0_order a0_isOut 0 v0_nodes v0_arcs v0_takenMany v0_leftBits v0_hasPolynomial v0_hasLists w0_near w0_row_4 w0_many_5)) hP hD [0, 1, 3, 4] [2] rfl rfl (by decide) (by decide) hk1 hFc hP1 hD1
      have hP : va_P (dC, dI) vwCl (wd_Mo_even cI cJ cG cZ a0 a0_from a0_to a0_near a0_lists a0_colours a0_shades a0_tints a0_attempt a0_taken a0_isApart a0_ways a0_next a0_splits a0_powers a0_row a0_many a0_can a0_could a0_arcRow a0_order a0_isOut 0 v0_nodes v0_arcs v0_takenMany v0_leftBits v0_hasPolynomial v0_hasLists w0_near w0_colours w0_row_4 w0_many_5) H1 := hP.sub [1, 2, 0, 3, 4] rfl
      have hD : va_D A (wd_Mo_even cI cJ cG cZ a0 a0_from a0_to a0_near a0_lists a0_colours a0_shades a0_tints a0_attempt a0_taken a0_isApart a0_ways a0_next a0_splits a0_powers a0_row a0_many a0_can a0_could a0_arcRow a0_order a0_isOut 0 v0_nodes v0_arcs v0_takenMany v0_leftBits v0_hasPolynomial v0_hasLists w0_near w0_colours w0_row_4 w0_many_5) := hD.sub [1, 2, 0, 3, 4] (by decide) rfl
      clear hP1 hK1 hD1 hk1 hPc hDc hFc ht hvm hz1
      generalize H1 = H at hP hS ⊢
      refine lv_istore_n (lv' := [(2, .int q_3), (0, .ref a0), (1, .int p1)]) hx hb d_Mo_even_24 rfl hl (by decide) rfl (fun ls hl => ?_)
      refine lv_aload_n hx hb d_Mo_even_25 rfl (lv_at hl 1 rfl) ?_
      refine lv_iload_n hx hb d_Mo_even_26 rfl (lv_at hl 0 rfl) ?_
      obtain ⟨w0_colours_10, hc_11, hm⟩ := gM_e hm
      have hPc : va_P (dC, dI) vwCl (wd_Mo_keepColours cI cJ cG cZ a0 a0_from a0_to a0_near a0_lists a0_colours a0_shades a0_tints a0_attempt a0_taken a0_isApart a0_ways a0_next a0_splits a0_powers a0_row a0_many a0_can a0_could a0_arcRow a0_order a0_isOut 0 v0_nodes v0_arcs v0_takenMany v0_leftBits v0_hasPolynomial v0_hasLists w0_colours w0_row_4) H := hP.sub [0, 2, 3] rfl
      have hDc : va_D A (wd_Mo_keepColours cI cJ cG cZ a0 a0_from a0_to a0_near a0_lists a0_colours a0_shades a0_tints a0_attempt a0_taken a0_isApart a0_ways a0_next a0_splits a0_powers a0_row a0_many a0_can a0_could a0_arcRow a0_order a0_isOut 0 v0_nodes v0_arcs v0_takenMany v0_leftBits v0_hasPolynomial v0_hasLists w0_colours w0_row_4) := hD.sub [0, 2, 3] (by decide) rfl
      have hFc : ∀ q, va_A (wd_Mo_keepColours cI cJ cG cZ a0 a0_from a0_to a0_near a0_lists a0_colours a0_shades a0_tints a0_attempt a0_taken a0_isApart a0_ways a0_next a0_splits a0_powers a0_row a0_many a0_can a0_could a0_arcRow a0_order a0_isOut 0 v0_nodes v0_arcs v0_takenMany v0_leftBits v0_hasPolynomial v0_hasLists w0_colours w0_row_4) H.size q → A q := va_free hD hS hA [0, 2, 3] rfl
      refine va_callv (va_runV (As := [.int q_3]) (rest := []) ⟨hx, hb, hml, hown, htt⟩ (c_Mo_keepColours l dC dI cI cJ cG cZ a0 a0_from a0_to a0_near a0_lists a0_colours a0_shades a0_tints a0_attempt a0_taken a0_isApart a0_ways a0_next a0_splits a0_powers a0_row a0_many a0_can a0_could a0_arcRow a0_order a0_isOut H.size F 0 v0_nodes v0_arcs v0_takenMany v0_leftBits v0_hasPolynomial v0_hasLists w0_colours w0_row_4 q_3 w0_colours_10 hc_11) (cwV 1 htt (gdV kt_896 kt_898 kp_48 kt_10 kt_899) rfl rfl rfl (by decide +kernel) ⟨(Nat.le_of_ble_eq_true rfl), (Nat.le_of_ble_eq_true rfl)⟩) ⟨PcS_blind, va_recv hK hPc (ci := 8) (q0 := 0) rfl rfl, PcS_in hPc hK hDc hNw⟩ rfl rfl hl.1 rfl (lv_room (Nat.le_of_ble_eq_true rfl)) d_Mo_even_27 ⟨Nat.zero_le _, Nat.zero_le _⟩) hS (fun q _ h => hFc q h) hFc (fun u t H1 locs ht hvm hw hB hz1 hk1 hS => ?_)
      obtain ⟨hP1, hK1, hD1⟩ := hB
      rw [ht] at hP1
      obtain ⟨hP, hD⟩ := va_join (wr := [(a0_near, .inl (cI, 12, .inl w0_near)), (a0_many, .inl (cI, 12, .inl w0_many_5))]) (w1 := (wd_Mo_keepColours cI cJ cG cZ a0 a0_from a0_to a0_near a0_lists a0_colours a0_shades a0_tints a0_attempt a0_taken a0_isApart a0_ways a0_next a0_splits a0_powers a0_row a0_many a0_can a0_could a0_arcRow a0_order a0_isOut 0 v0_nodes v0_arcs v0_takenMany v0_leftBits v0_hasPolynomial v0_hasLists w0_colours_10 w0_row_4)) hP hD [0, 2, 3] [1, 4] rfl rfl (by decide) (by decide) hk1 hFc hP1 hD1
      have hP : va_P (dC, dI) vwCl (wd_Mo_even cI cJ cG cZ a0 a0_from a0_to a0_near a0_lists a0_colours a0_shades a0_tints a0_attempt a0_taken a0_isApart a0_ways a0_next a0_splits a0_powers a0_row a0_many a0_can a0_could a0_arcRow a0_order a0_isOut 0 v0_nodes v0_arcs v0_takenMany v0_leftBits v0_hasPolynomial v0_hasLists w0_near w0_colours_10 w0_row_4 w0_many_5) H1 := hP.sub [2, 0, 3, 4, 1] rfl
      have hD : va_D A (wd_Mo_even cI cJ cG cZ a0 a0_from a0_to a0_near a0_lists a0_colours a0_shades a0_tints a0_attempt a0_taken a0_isApart a0_ways a0_next a0_splits a0_powers a0_row a0_many a0_can a0_could a0_arcRow a0_order a0_isOut 0 v0_nodes v0_arcs v0_takenMany v0_leftBits v0_hasPolynomial v0_hasLists w0_near w0_colours_10 w0_row_4 w0_many_5) := hD.sub [2, 0, 3, 4, 1] (by decide) rfl
      clear hP1 hK1 hD1 hk1 hPc hDc hFc ht hvm hz1
      generalize H1 = H at hP hS ⊢
      refine lv_iload_n hx hb d_Mo_even_30 rfl (lv_at hl 0 rfl) ?_
      refine lv_if_eq (tgt := 38) hx hb d_Mo_even_31 (by decide) (fun c_12 => ?_) (fun c_12 => ?_)
      · have hm := ite_t c_12 hm
        refine lv_iconst (v := 0) hx hb d_Mo_even_38 (by decide) ?_
        cases hm
        exact W.iret hx hb hr (fun t ht hW => ⟨⟨_, (), rfl, rfl, by rw [ht]; exact hP, va_K.moved hW.alike hK, hD⟩, hS.F ht⟩) hS.2.2 d_Mo_even_39
      · have hm := ite_f c_12 hm
        refine lv_iconst (v := 1) hx hb d_Mo_even_34 (by decide) ?_
        refine lv_goto (tgt := 39) hx hb d_Mo_even_35 (by decide) ?_
        cases hm
        exact W.iret hx hb hr (fun t ht hW => ⟨⟨_, (), rfl, rfl, by rw [ht]; exact hP, va_K.moved hW.alike hK, hD⟩, hS.F ht⟩) hS.2.2 d_Mo_even_39
    · have hm := ite_f c_2 hm
      refine lv_iconst (v := (-1)) hx hb d_Mo_even_16 (by decide) ?_
      cases hm
      exact W.iret hx hb hr (fun t ht hW => ⟨⟨_, (), rfl, rfl, by rw [ht]; exact hP, va_K.moved hW.alike hK, hD⟩, hS.F ht⟩) hS.2.2 d_Mo_even_17
theorem d_Mo_colour_0 : decode prog_10_method_17_code 0 = .ok (.aload_n 0, 1) := by decide +kernel
theorem d_Mo_colour_1 : decode prog_10_method_17_code 1 = .ok (.iconst 0, 1) := by decide +kernel
theorem d_Mo_colour_2 : decode prog_10_method_17_code 2 = .ok (.putfield 79, 3) := by decide +kernel
theorem d_Mo_colour_5 : decode prog_10_method_17_code 5 = .ok (.aload_n 0, 1) := by decide +kernel
theorem d_Mo_colour_6 : decode prog_10_method_17_code 6 = .ok (.iload_n 1, 1) := by decide +kernel
theorem d_Mo_colour_7 : decode prog_10_method_17_code 7 = .ok (.invokevirtual 98, 3) := by decide +kernel
theorem d_Mo_colour_10 : decode prog_10_method_17_code 10 = .ok (.ifCond .eq 12, 3) := by decide +kernel
theorem d_Mo_colour_13 : decode prog_10_method_17_code 13 = .ok (.aload_n 0, 1) := by decide +kernel
theorem d_Mo_colour_14 : decode prog_10_method_17_code 14 = .ok (.getfield 22, 3) := by decide +kernel
theorem d_Mo_colour_17 : decode prog_10_method_17_code 17 = .ok (.iload_n 1, 1) := by decide +kernel
theorem d_Mo_colour_18 : decode prog_10_method_17_code 18 = .ok (.iaload, 1) := by decide +kernel
theorem d_Mo_colour_19 : decode prog_10_method_17_code 19 = .ok (.goto 4, 3) := by decide +kernel
theorem d_Mo_colour_22 : decode prog_10_method_17_code 22 = .ok (.iconst (-1), 1) := by decide +kernel
theorem d_Mo_colour_23 : decode prog_10_method_17_code 23 = .ok (.ireturn, 1) := by decide +kernel
abbrev wd_Mo_colour (cI cJ cG cZ : ClassId) (a0 a0_from a0_to a0_near a0_lists a0_colours a0_shades a0_tints a0_attempt a0_taken a0_isApart a0_ways a0_next a0_splits a0_powers a0_row a0_many a0_can a0_could a0_arcRow a0_order a0_isOut : Nat) (v0_thrown : Int32) (v0_nodes : Int32) (v0_arcs : Int32) (v0_takenMany : Int32) (v0_leftBits : Int32) (v0_hasPolynomial : Int32) (v0_hasLists : Int32) (w0_colours : Nat → Int32) : va_W := [(a0, .inr (8, [.int v0_thrown, .int v0_nodes, .int v0_arcs, .ref a0_from, .ref a0_to, .ref a0_near, .ref a0_lists, .ref a0_colours, .ref a0_shades, .ref a0_tints, .ref a0_attempt, .int v0_takenMany, .ref a0_taken, .int v0_leftBits, .ref a0_isApart, .ref a0_ways, .ref a0_next, .ref a0_splits, .ref a0_powers, .ref a0_row, .ref a0_many, .int v0_hasPolynomial, .int v0_hasLists, .ref a0_can, .ref a0_could, .ref a0_arcRow, .ref a0_order, .ref a0_isOut])), (a0_colours, .inl (cI, 12, .inl w0_colours))]
abbrev us_Mo_colour : List Cond := .code y_Mo_colour prog_10_method_17_code 2 (some .int) :: gtbl
abbrev rm_Mo_colour : Room := { frames := 1, cells := 0, slots := 0, locals := 21 }
def m_Mo_colour (F : Nat) (v0_thrown : Int32) (v0_nodes : Int32) (v0_arcs : Int32) (v0_takenMany : Int32) (v0_leftBits : Int32) (v0_hasPolynomial : Int32) (v0_hasLists : Int32) (w0_colours : Nat → Int32) (p1 : Int32) : Option (Int32 × Int32) :=
  gM (m_Mo_isNode F 0 v0_nodes v0_arcs v0_takenMany v0_leftBits v0_hasPolynomial v0_hasLists p1) (fun q_1 =>
  if q_1 = 0 then (
    some ((-1), 0)
  ) else (
    gC (inb p1 12) (
    some (w0_colours p1.toNatClampNeg, 0))
  ))
set_option maxHeartbeats 4000000 in
set_option maxRecDepth 100000 in
theorem c_Mo_colour (l : Launch) (dC : Nat → ClassId) (dI : Nat → Nat → Nat) (cI cJ cG cZ : ClassId) (a0 a0_from a0_to a0_near a0_lists a0_colours a0_shades a0_tints a0_attempt a0_taken a0_isApart a0_ways a0_next a0_splits a0_powers a0_row a0_many a0_can a0_could a0_arcRow a0_order a0_isOut : Nat) (sz : Nat) (F : Nat) (v0_thrown : Int32) (v0_nodes : Int32) (v0_arcs : Int32) (v0_takenMany : Int32) (v0_leftBits : Int32) (v0_hasPolynomial : Int32) (v0_hasLists : Int32) (w0_colours : Nat → Int32) (p1 : Int32) (ret : Int32) (o_v0_thrown : Int32) (hm : m_Mo_colour F v0_thrown v0_nodes v0_arcs v0_takenMany v0_leftBits v0_hasPolynomial v0_hasLists w0_colours p1 = some (ret, o_v0_thrown)) : Met l y_Mo_colour us_Mo_colour rm_Mo_colour (PcS (dC, dI) (tyL cI cJ cG cZ) [.ref a0, .int p1] sz (wd_Mo_colour cI cJ cG cZ a0 a0_from a0_to a0_near a0_lists a0_colours a0_shades a0_tints a0_attempt a0_taken a0_isApart a0_ways a0_next a0_splits a0_powers a0_row a0_many a0_can a0_could a0_arcRow a0_order a0_isOut v0_thrown v0_nodes v0_arcs v0_takenMany v0_leftBits v0_hasPolynomial v0_hasLists w0_colours)) (va_Qi (fun (r : Int32) (_ : Unit) => ret = r) (fun _ t => PoS (dC, dI) (tyL cI cJ cG cZ) (wd_Mo_colour cI cJ cG cZ a0 a0_from a0_to a0_near a0_lists a0_colours a0_shades a0_tints a0_attempt a0_taken a0_isApart a0_ways a0_next a0_splits a0_powers a0_row a0_many a0_can a0_could a0_arcRow a0_order a0_isOut o_v0_thrown v0_nodes v0_arcs v0_takenMany v0_leftBits v0_hasPolynomial v0_hasLists w0_colours) (va_A (wd_Mo_colour cI cJ cG cZ a0 a0_from a0_to a0_near a0_lists a0_colours a0_shades a0_tints a0_attempt a0_taken a0_isApart a0_ways a0_next a0_splits a0_powers a0_row a0_many a0_can a0_could a0_arcRow a0_order a0_isOut v0_thrown v0_nodes v0_arcs v0_takenMany v0_leftBits v0_hasPolynomial v0_hasLists w0_colours) sz) t) (va_A (wd_Mo_colour cI cJ cG cZ a0 a0_from a0_to a0_near a0_lists a0_colours a0_shades a0_tints a0_attempt a0_taken a0_isApart a0_ways a0_next a0_splits a0_powers a0_row a0_many a0_can a0_could a0_arcRow a0_order a0_isOut v0_thrown v0_nodes v0_arcs v0_takenMany v0_leftBits v0_hasPolynomial v0_hasLists w0_colours) sz)) 0 0 (va_A (wd_Mo_colour cI cJ cG cZ a0 a0_from a0_to a0_near a0_lists a0_colours a0_shades a0_tints a0_attempt a0_taken a0_isApart a0_ways a0_next a0_splits a0_powers a0_row a0_many a0_can a0_could a0_arcRow a0_order a0_isOut v0_thrown v0_nodes v0_arcs v0_takenMany v0_leftBits v0_hasPolynomial v0_hasLists w0_colours) sz) := by
  refine Met.ofW (cc := prog_10_method_17_code) (maxL := 2) (ret := (some .int)) (by decide) rfl ?_
  intro p e s m args below meth c s₁ B hml hv
  obtain ⟨rfl, hsz, hP, hK, hD0, hNw⟩ := hv
  have hx := B.exec
  have hb := B.bytes
  have hr := B.returns
  have htt : ∀ w ∈ gtbl, w.before _ s = true := fun w h => atoms_spec (ws := us_Mo_colour) B.pre w (List.mem_cons_of_mem _ h)
  have hown : s.vm.findClass R_Mo = some m.cls := findClass_of_methodNamed B.named
  have hlocks := B.notSynchronized
  subst hsz
  have hD := hD0.self (sz := s.heap.size)
  generalize hAe : va_A (wd_Mo_colour cI cJ cG cZ a0 a0_from a0_to a0_near a0_lists a0_colours a0_shades a0_tints a0_attempt a0_taken a0_isApart a0_ways a0_next a0_splits a0_powers a0_row a0_many a0_can a0_could a0_arcRow a0_order a0_isOut v0_thrown v0_nodes v0_arcs v0_takenMany v0_leftBits v0_hasPolynomial v0_hasLists w0_colours) s.heap.size = A at hD ⊢
  have hA : ∀ q : Nat, s.heap.size ≤ q → A q := fun q h => by rw [← hAe]; exact Or.inr h
  clear hAe hD0
  have hS : va_S A s.heap s.heap [] := va_S.rf
  have hl := lv_entry ([.ref a0, .int p1]) (n := 2) (Nat.le_of_ble_eq_true rfl)
  rw [lg_entry_eq]
  generalize (lg_sl ([.ref a0, .int p1]) ++ List.replicate (2 - (lg_sl ([.ref a0, .int p1])).length) Slot.unset).toArray = ls at hl ⊢
  have hl : lv_has ls 2 [(0, .ref a0), (1, .int p1)] := hl
  generalize hH : s.heap = H at hP ⊢
  have hS : va_S A s.heap H [] := hH ▸ hS
  generalize hLo : ([] : List Loc) = locs at hS ⊢
  clear hH hLo
  unfold m_Mo_colour at hm
  refine lv_aload_n hx hb d_Mo_colour_0 rfl (lv_at hl 0 rfl) ?_
  refine lv_iconst (v := 0) hx hb d_Mo_colour_1 (by decide) ?_
  refine va_put (D := (dC, dI)) (ci := 8) (v := .int 0) (ty := .int) (C := R_Mo) (T := T_Mo) (N := 28) hx hb htt hin_Mo ty_Mo tyok_Mo nm_Mo hown hK hP hD hS 0 rfl rfl 0 (by decide) (htt _ kt_769) (fun _ h9 => h9) rfl (by decide +kernel) rfl rfl (Nat.le_of_ble_eq_true rfl) d_Mo_colour_2 (fun H locs hP hD hS => ?_)
  have hP : va_P (dC, dI) vwCl (wd_Mo_colour cI cJ cG cZ a0 a0_from a0_to a0_near a0_lists a0_colours a0_shades a0_tints a0_attempt a0_taken a0_isApart a0_ways a0_next a0_splits a0_powers a0_row a0_many a0_can a0_could a0_arcRow a0_order a0_isOut 0 v0_nodes v0_arcs v0_takenMany v0_leftBits v0_hasPolynomial v0_hasLists w0_colours) H := hP
  have hD : va_D A (wd_Mo_colour cI cJ cG cZ a0 a0_from a0_to a0_near a0_lists a0_colours a0_shades a0_tints a0_attempt a0_taken a0_isApart a0_ways a0_next a0_splits a0_powers a0_row a0_many a0_can a0_could a0_arcRow a0_order a0_isOut 0 v0_nodes v0_arcs v0_takenMany v0_leftBits v0_hasPolynomial v0_hasLists w0_colours) := hD
  refine lv_aload_n hx hb d_Mo_colour_5 rfl (lv_at hl 0 rfl) ?_
  refine lv_iload_n hx hb d_Mo_colour_6 rfl (lv_at hl 1 rfl) ?_
  obtain ⟨q_1, hc_2, hm⟩ := gM_e hm
  have hPc : va_P (dC, dI) vwCl (wd_Mo_isNode cI cJ cG cZ a0 a0_from a0_to a0_near a0_lists a0_colours a0_shades a0_tints a0_attempt a0_taken a0_isApart a0_ways a0_next a0_splits a0_powers a0_row a0_many a0_can a0_could a0_arcRow a0_order a0_isOut 0 v0_nodes v0_arcs v0_takenMany v0_leftBits v0_hasPolynomial v0_hasLists) H := hP.sub [0] rfl
  have hDc : va_D A (wd_Mo_isNode cI cJ cG cZ a0 a0_from a0_to a0_near a0_lists a0_colours a0_shades a0_tints a0_attempt a0_taken a0_isApart a0_ways a0_next a0_splits a0_powers a0_row a0_many a0_can a0_could a0_arcRow a0_order a0_isOut 0 v0_nodes v0_arcs v0_takenMany v0_leftBits v0_hasPolynomial v0_hasLists) := hD.sub [0] (by decide) rfl
  have hFc : ∀ q, va_A (wd_Mo_isNode cI cJ cG cZ a0 a0_from a0_to a0_near a0_lists a0_colours a0_shades a0_tints a0_attempt a0_taken a0_isApart a0_ways a0_next a0_splits a0_powers a0_row a0_many a0_can a0_could a0_arcRow a0_order a0_isOut 0 v0_nodes v0_arcs v0_takenMany v0_leftBits v0_hasPolynomial v0_hasLists) H.size q → A q := va_free hD hS hA [0] rfl
  refine va_calli (va_runV (As := [.int p1]) (rest := []) ⟨hx, hb, hml, hown, htt⟩ (c_Mo_isNode l dC dI cI cJ cG cZ a0 a0_from a0_to a0_near a0_lists a0_colours a0_shades a0_tints a0_attempt a0_taken a0_isApart a0_ways a0_next a0_splits a0_powers a0_row a0_many a0_can a0_could a0_arcRow a0_order a0_isOut H.size F 0 v0_nodes v0_arcs v0_takenMany v0_leftBits v0_hasPolynomial v0_hasLists p1 q_1 hc_2) (cwV 1 htt (gdV kt_868 kt_870 kp_43 kt_10 kt_871) rfl rfl rfl (by decide +kernel) ⟨(Nat.le_of_ble_eq_true rfl), (Nat.le_of_ble_eq_true rfl)⟩) ⟨PcS_blind, va_recv hK hPc (ci := 8) (q0 := 0) rfl rfl, PcS_in hPc hK hDc hNw⟩ rfl rfl hl.1 rfl (lv_room (Nat.le_of_ble_eq_true rfl)) d_Mo_colour_7 ⟨Nat.zero_le _, Nat.zero_le _⟩) hS (fun q _ h => hFc q h) hFc (fun r_3 u t H1 locs ht hvm hw hB hz1 hk1 hS => ?_)
  obtain ⟨hP1, hK1, hD1⟩ := hB
  rw [ht] at hP1
  obtain ⟨hw, hz_4⟩ := hw
  subst hw
  obtain ⟨hP, hD⟩ := va_join (wr := [(a0_colours, .inl (cI, 12, .inl w0_colours))]) (w1 := (wd_Mo_isNode cI cJ cG cZ a0 a0_from a0_to a0_near a0_lists a0_colours a0_shades a0_tints a0_attempt a0_taken a0_isApart a0_ways a0_next a0_splits a0_powers a0_row a0_many a0_can a0_could a0_arcRow a0_order a0_isOut 0 v0_nodes v0_arcs v0_takenMany v0_leftBits v0_hasPolynomial v0_hasLists)) hP hD [0] [1] rfl rfl (by decide) (by decide) hk1 hFc hP1 hD1
  have hP : va_P (dC, dI) vwCl (wd_Mo_colour cI cJ cG cZ a0 a0_from a0_to a0_near a0_lists a0_colours a0_shades a0_tints a0_attempt a0_taken a0_isApart a0_ways a0_next a0_splits a0_powers a0_row a0_many a0_can a0_could a0_arcRow a0_order a0_isOut 0 v0_nodes v0_arcs v0_takenMany v0_leftBits v0_hasPolynomial v0_hasLists w0_colours) H1 := hP.sub [1, 0] rfl
  have hD : va_D A (wd_Mo_colour cI cJ cG cZ a0 a0_from a0_to a0_near a0_lists a0_colours a0_shades a0_tints a0_attempt a0_taken a0_isApart a0_ways a0_next a0_splits a0_powers a0_row a0_many a0_can a0_could a0_arcRow a0_order a0_isOut 0 v0_nodes v0_arcs v0_takenMany v0_leftBits v0_hasPolynomial v0_hasLists w0_colours) := hD.sub [1, 0] (by decide) rfl
  clear hP1 hK1 hD1 hk1 hPc hDc hFc ht hvm hz1
  generalize H1 = H at hP hS ⊢
  refine lv_if_eq (tgt := 22) hx hb d_Mo_colour_10 (by decide) (fun c_5 => ?_) (fun c_5 => ?_)
  · have hm := ite_t c_5 hm
    refine lv_iconst (v := (-1)) hx hb d_Mo_colour_22 (by decide) ?_
    cases hm
    exact W.iret hx hb hr (fun t ht hW => ⟨⟨_, (), rfl, rfl, by rw [ht]; exact hP, va_K.moved hW.alike hK, hD⟩, hS.F ht⟩) hS.2.2 d_Mo_colour_23
  · have hm := ite_f c_5 hm
    refine lv_aload_n hx hb d_Mo_colour_13 rfl (lv_at hl 0 rfl) ?_
    refine va_get (D := (dC, dI)) (ci := 8) (v := .ref a0_colours) (C := R_Mo) (T := T_Mo) (N := 28) hx hb htt hin_Mo hown hK hP 0 rfl rfl 7 (by decide) (htt _ kt_776) (fun _ h9 => h9) rfl d_Mo_colour_14 ?_
    refine lv_iload_n hx hb d_Mo_colour_17 rfl (lv_at hl 1 rfl) ?_
    obtain ⟨hi_6, hm⟩ := gC_e hm
    refine va_iald hx hb hK hP 1 0 rfl rfl (inb_vp hi_6) d_Mo_colour_18 ?_
    refine lv_goto (tgt := 23) hx hb d_Mo_colour_19 (by decide) ?_
    cases hm
    exact W.iret hx hb hr (fun t ht hW => ⟨⟨_, (), rfl, rfl, by rw [ht]; exact hP, va_K.moved hW.alike hK, hD⟩, hS.F ht⟩) hS.2.2 d_Mo_colour_23
theorem d_Mo_polynomial_0 : decode prog_10_method_19_code 0 = .ok (.aload_n 0, 1) := by decide +kernel
theorem d_Mo_polynomial_1 : decode prog_10_method_19_code 1 = .ok (.getfield 120, 3) := by decide +kernel
theorem d_Mo_polynomial_4 : decode prog_10_method_19_code 4 = .ok (.ifCond .eq 4, 3) := by decide +kernel
theorem d_Mo_polynomial_7 : decode prog_10_method_19_code 7 = .ok (.return_, 1) := by decide +kernel
theorem d_Mo_polynomial_8 : decode prog_10_method_19_code 8 = .ok (.aload_n 0, 1) := by decide +kernel
theorem d_Mo_polynomial_9 : decode prog_10_method_19_code 9 = .ok (.iconst 1, 1) := by decide +kernel
theorem d_Mo_polynomial_10 : decode prog_10_method_19_code 10 = .ok (.putfield 120, 3) := by decide +kernel
theorem d_Mo_polynomial_13 : decode prog_10_method_19_code 13 = .ok (.aload_n 0, 1) := by decide +kernel
theorem d_Mo_polynomial_14 : decode prog_10_method_19_code 14 = .ok (.invokevirtual 127, 3) := by decide +kernel
theorem d_Mo_polynomial_17 : decode prog_10_method_19_code 17 = .ok (.iconst 1, 1) := by decide +kernel
theorem d_Mo_polynomial_18 : decode prog_10_method_19_code 18 = .ok (.aload_n 0, 1) := by decide +kernel
theorem d_Mo_polynomial_19 : decode prog_10_method_19_code 19 = .ok (.getfield 86, 3) := by decide +kernel
theorem d_Mo_polynomial_22 : decode prog_10_method_19_code 22 = .ok (.ishl, 1) := by decide +kernel
theorem d_Mo_polynomial_23 : decode prog_10_method_19_code 23 = .ok (.iconst 1, 1) := by decide +kernel
theorem d_Mo_polynomial_24 : decode prog_10_method_19_code 24 = .ok (.isub, 1) := by decide +kernel
theorem d_Mo_polynomial_25 : decode prog_10_method_19_code 25 = .ok (.istore_n 1, 1) := by decide +kernel
theorem d_Mo_polynomial_26 : decode prog_10_method_19_code 26 = .ok (.iconst 0, 1) := by decide +kernel
theorem d_Mo_polynomial_27 : decode prog_10_method_19_code 27 = .ok (.istore_n 2, 1) := by decide +kernel
theorem d_Mo_polynomial_28 : decode prog_10_method_19_code 28 = .ok (.iload_n 2, 1) := by decide +kernel
theorem d_Mo_polynomial_29 : decode prog_10_method_19_code 29 = .ok (.iload_n 1, 1) := by decide +kernel
theorem d_Mo_polynomial_30 : decode prog_10_method_19_code 30 = .ok (.if_icmp .gt 166, 3) := by decide +kernel
theorem d_Mo_polynomial_33 : decode prog_10_method_19_code 33 = .ok (.iconst 0, 1) := by decide +kernel
theorem d_Mo_polynomial_34 : decode prog_10_method_19_code 34 = .ok (.istore_n 3, 1) := by decide +kernel
theorem d_Mo_polynomial_35 : decode prog_10_method_19_code 35 = .ok (.iload_n 3, 1) := by decide +kernel
theorem d_Mo_polynomial_36 : decode prog_10_method_19_code 36 = .ok (.aload_n 0, 1) := by decide +kernel
theorem d_Mo_polynomial_37 : decode prog_10_method_19_code 37 = .ok (.getfield 86, 3) := by decide +kernel
theorem d_Mo_polynomial_40 : decode prog_10_method_19_code 40 = .ok (.if_icmp .gt 33, 3) := by decide +kernel
theorem d_Mo_polynomial_43 : decode prog_10_method_19_code 43 = .ok (.aload_n 0, 1) := by decide +kernel
theorem d_Mo_polynomial_44 : decode prog_10_method_19_code 44 = .ok (.getfield 49, 3) := by decide +kernel
theorem d_Mo_polynomial_47 : decode prog_10_method_19_code 47 = .ok (.bipush 13, 2) := by decide +kernel
theorem d_Mo_polynomial_49 : decode prog_10_method_19_code 49 = .ok (.iload_n 2, 1) := by decide +kernel
theorem d_Mo_polynomial_50 : decode prog_10_method_19_code 50 = .ok (.imul, 1) := by decide +kernel
theorem d_Mo_polynomial_51 : decode prog_10_method_19_code 51 = .ok (.iload_n 3, 1) := by decide +kernel
theorem d_Mo_polynomial_52 : decode prog_10_method_19_code 52 = .ok (.iadd, 1) := by decide +kernel
theorem d_Mo_polynomial_53 : decode prog_10_method_19_code 53 = .ok (.iload_n 2, 1) := by decide +kernel
theorem d_Mo_polynomial_54 : decode prog_10_method_19_code 54 = .ok (.ifCond .ne 11, 3) := by decide +kernel
theorem d_Mo_polynomial_57 : decode prog_10_method_19_code 57 = .ok (.iload_n 3, 1) := by decide +kernel
theorem d_Mo_polynomial_58 : decode prog_10_method_19_code 58 = .ok (.ifCond .ne 7, 3) := by decide +kernel
theorem d_Mo_polynomial_61 : decode prog_10_method_19_code 61 = .ok (.lconst 1, 1) := by decide +kernel
theorem d_Mo_polynomial_62 : decode prog_10_method_19_code 62 = .ok (.goto 4, 3) := by decide +kernel
theorem d_Mo_polynomial_65 : decode prog_10_method_19_code 65 = .ok (.lconst 0, 1) := by decide +kernel
theorem d_Mo_polynomial_66 : decode prog_10_method_19_code 66 = .ok (.lastore, 1) := by decide +kernel
theorem d_Mo_polynomial_67 : decode prog_10_method_19_code 67 = .ok (.iinc 3 1, 3) := by decide +kernel
theorem d_Mo_polynomial_70 : decode prog_10_method_19_code 70 = .ok (.goto (-35), 3) := by decide +kernel
theorem d_Mo_polynomial_73 : decode prog_10_method_19_code 73 = .ok (.iload_n 2, 1) := by decide +kernel
theorem d_Mo_polynomial_74 : decode prog_10_method_19_code 74 = .ok (.iload_n 2, 1) := by decide +kernel
theorem d_Mo_polynomial_75 : decode prog_10_method_19_code 75 = .ok (.ineg, 1) := by decide +kernel
theorem d_Mo_polynomial_76 : decode prog_10_method_19_code 76 = .ok (.iand, 1) := by decide +kernel
theorem d_Mo_polynomial_77 : decode prog_10_method_19_code 77 = .ok (.istore_n 3, 1) := by decide +kernel
theorem d_Mo_polynomial_78 : decode prog_10_method_19_code 78 = .ok (.iload_n 2, 1) := by decide +kernel
theorem d_Mo_polynomial_79 : decode prog_10_method_19_code 79 = .ok (.iload_n 3, 1) := by decide +kernel
theorem d_Mo_polynomial_80 : decode prog_10_method_19_code 80 = .ok (.ixor, 1) := by decide +kernel
theorem d_Mo_polynomial_81 : decode prog_10_method_19_code 81 = .ok (.istore 4, 2) := by decide +kernel
theorem d_Mo_polynomial_83 : decode prog_10_method_19_code 83 = .ok (.iload_n 2, 1) := by decide +kernel
theorem d_Mo_polynomial_84 : decode prog_10_method_19_code 84 = .ok (.ifCond .le 7, 3) := by decide +kernel
theorem d_Mo_polynomial_87 : decode prog_10_method_19_code 87 = .ok (.iconst 1, 1) := by decide +kernel
theorem d_Mo_polynomial_88 : decode prog_10_method_19_code 88 = .ok (.goto 4, 3) := by decide +kernel
theorem d_Mo_polynomial_91 : decode prog_10_method_19_code 91 = .ok (.iconst 0, 1) := by decide +kernel
theorem d_Mo_polynomial_92 : decode prog_10_method_19_code 92 = .ok (.istore 5, 2) := by decide +kernel
theorem d_Mo_polynomial_94 : decode prog_10_method_19_code 94 = .ok (.iload 4, 2) := by decide +kernel
theorem d_Mo_polynomial_96 : decode prog_10_method_19_code 96 = .ok (.istore 6, 2) := by decide +kernel
theorem d_Mo_polynomial_98 : decode prog_10_method_19_code 98 = .ok (.iload 5, 2) := by decide +kernel
theorem d_Mo_polynomial_100 : decode prog_10_method_19_code 100 = .ok (.ifCond .eq 90, 3) := by decide +kernel
theorem d_Mo_polynomial_103 : decode prog_10_method_19_code 103 = .ok (.aload_n 0, 1) := by decide +kernel
theorem d_Mo_polynomial_104 : decode prog_10_method_19_code 104 = .ok (.getfield 37, 3) := by decide +kernel
theorem d_Mo_polynomial_107 : decode prog_10_method_19_code 107 = .ok (.iload 6, 2) := by decide +kernel
theorem d_Mo_polynomial_109 : decode prog_10_method_19_code 109 = .ok (.iload_n 3, 1) := by decide +kernel
theorem d_Mo_polynomial_110 : decode prog_10_method_19_code 110 = .ok (.ior, 1) := by decide +kernel
theorem d_Mo_polynomial_111 : decode prog_10_method_19_code 111 = .ok (.baload, 1) := by decide +kernel
theorem d_Mo_polynomial_112 : decode prog_10_method_19_code 112 = .ok (.ifCond .eq 54, 3) := by decide +kernel
theorem d_Mo_polynomial_115 : decode prog_10_method_19_code 115 = .ok (.iconst 1, 1) := by decide +kernel
theorem d_Mo_polynomial_116 : decode prog_10_method_19_code 116 = .ok (.istore 7, 2) := by decide +kernel
theorem d_Mo_polynomial_118 : decode prog_10_method_19_code 118 = .ok (.iload 7, 2) := by decide +kernel
theorem d_Mo_polynomial_120 : decode prog_10_method_19_code 120 = .ok (.aload_n 0, 1) := by decide +kernel
theorem d_Mo_polynomial_121 : decode prog_10_method_19_code 121 = .ok (.getfield 86, 3) := by decide +kernel
theorem d_Mo_polynomial_124 : decode prog_10_method_19_code 124 = .ok (.if_icmp .gt 42, 3) := by decide +kernel
theorem d_Mo_polynomial_127 : decode prog_10_method_19_code 127 = .ok (.aload_n 0, 1) := by decide +kernel
theorem d_Mo_polynomial_128 : decode prog_10_method_19_code 128 = .ok (.getfield 49, 3) := by decide +kernel
theorem d_Mo_polynomial_131 : decode prog_10_method_19_code 131 = .ok (.bipush 13, 2) := by decide +kernel
theorem d_Mo_polynomial_133 : decode prog_10_method_19_code 133 = .ok (.iload_n 2, 1) := by decide +kernel
theorem d_Mo_polynomial_134 : decode prog_10_method_19_code 134 = .ok (.imul, 1) := by decide +kernel
theorem d_Mo_polynomial_135 : decode prog_10_method_19_code 135 = .ok (.iload 7, 2) := by decide +kernel
theorem d_Mo_polynomial_137 : decode prog_10_method_19_code 137 = .ok (.iadd, 1) := by decide +kernel
theorem d_Mo_polynomial_138 : decode prog_10_method_19_code 138 = .ok (.dup2, 1) := by decide +kernel
theorem d_Mo_polynomial_139 : decode prog_10_method_19_code 139 = .ok (.laload, 1) := by decide +kernel
theorem d_Mo_polynomial_140 : decode prog_10_method_19_code 140 = .ok (.aload_n 0, 1) := by decide +kernel
theorem d_Mo_polynomial_141 : decode prog_10_method_19_code 141 = .ok (.getfield 49, 3) := by decide +kernel
theorem d_Mo_polynomial_144 : decode prog_10_method_19_code 144 = .ok (.bipush 13, 2) := by decide +kernel
theorem d_Mo_polynomial_146 : decode prog_10_method_19_code 146 = .ok (.iload 4, 2) := by decide +kernel
theorem d_Mo_polynomial_148 : decode prog_10_method_19_code 148 = .ok (.iload 6, 2) := by decide +kernel
theorem d_Mo_polynomial_150 : decode prog_10_method_19_code 150 = .ok (.ixor, 1) := by decide +kernel
theorem d_Mo_polynomial_151 : decode prog_10_method_19_code 151 = .ok (.imul, 1) := by decide +kernel
theorem d_Mo_polynomial_152 : decode prog_10_method_19_code 152 = .ok (.iload 7, 2) := by decide +kernel
theorem d_Mo_polynomial_154 : decode prog_10_method_19_code 154 = .ok (.iadd, 1) := by decide +kernel
theorem d_Mo_polynomial_155 : decode prog_10_method_19_code 155 = .ok (.iconst 1, 1) := by decide +kernel
theorem d_Mo_polynomial_156 : decode prog_10_method_19_code 156 = .ok (.isub, 1) := by decide +kernel
theorem d_Mo_polynomial_157 : decode prog_10_method_19_code 157 = .ok (.laload, 1) := by decide +kernel
theorem d_Mo_polynomial_158 : decode prog_10_method_19_code 158 = .ok (.ladd, 1) := by decide +kernel
theorem d_Mo_polynomial_159 : decode prog_10_method_19_code 159 = .ok (.lastore, 1) := by decide +kernel
theorem d_Mo_polynomial_160 : decode prog_10_method_19_code 160 = .ok (.iinc 7 1, 3) := by decide +kernel
theorem d_Mo_polynomial_163 : decode prog_10_method_19_code 163 = .ok (.goto (-45), 3) := by decide +kernel
theorem d_Mo_polynomial_166 : decode prog_10_method_19_code 166 = .ok (.iload 6, 2) := by decide +kernel
theorem d_Mo_polynomial_168 : decode prog_10_method_19_code 168 = .ok (.ifCond .le 7, 3) := by decide +kernel
theorem d_Mo_polynomial_171 : decode prog_10_method_19_code 171 = .ok (.iconst 1, 1) := by decide +kernel
theorem d_Mo_polynomial_172 : decode prog_10_method_19_code 172 = .ok (.goto 4, 3) := by decide +kernel
theorem d_Mo_polynomial_175 : decode prog_10_method_19_code 175 = .ok (.iconst 0, 1) := by decide +kernel
theorem d_Mo_polynomial_176 : decode prog_10_method_19_code 176 = .ok (.istore 5, 2) := by decide +kernel
theorem d_Mo_polynomial_178 : decode prog_10_method_19_code 178 = .ok (.iload 6, 2) := by decide +kernel
theorem d_Mo_polynomial_180 : decode prog_10_method_19_code 180 = .ok (.iconst 1, 1) := by decide +kernel
theorem d_Mo_polynomial_181 : decode prog_10_method_19_code 181 = .ok (.isub, 1) := by decide +kernel
theorem d_Mo_polynomial_182 : decode prog_10_method_19_code 182 = .ok (.iload 4, 2) := by decide +kernel
theorem d_Mo_polynomial_184 : decode prog_10_method_19_code 184 = .ok (.iand, 1) := by decide +kernel
theorem d_Mo_polynomial_185 : decode prog_10_method_19_code 185 = .ok (.istore 6, 2) := by decide +kernel
theorem d_Mo_polynomial_187 : decode prog_10_method_19_code 187 = .ok (.goto (-89), 3) := by decide +kernel
theorem d_Mo_polynomial_190 : decode prog_10_method_19_code 190 = .ok (.iinc 2 1, 3) := by decide +kernel
theorem d_Mo_polynomial_193 : decode prog_10_method_19_code 193 = .ok (.goto (-165), 3) := by decide +kernel
theorem d_Mo_polynomial_196 : decode prog_10_method_19_code 196 = .ok (.iconst 0, 1) := by decide +kernel
theorem d_Mo_polynomial_197 : decode prog_10_method_19_code 197 = .ok (.istore_n 2, 1) := by decide +kernel
theorem d_Mo_polynomial_198 : decode prog_10_method_19_code 198 = .ok (.iload_n 2, 1) := by decide +kernel
theorem d_Mo_polynomial_199 : decode prog_10_method_19_code 199 = .ok (.bipush 13, 2) := by decide +kernel
theorem d_Mo_polynomial_201 : decode prog_10_method_19_code 201 = .ok (.if_icmp .gt 16, 3) := by decide +kernel
theorem d_Mo_polynomial_204 : decode prog_10_method_19_code 204 = .ok (.aload_n 0, 1) := by decide +kernel
theorem d_Mo_polynomial_205 : decode prog_10_method_19_code 205 = .ok (.getfield 52, 3) := by decide +kernel
theorem d_Mo_polynomial_208 : decode prog_10_method_19_code 208 = .ok (.iload_n 2, 1) := by decide +kernel
theorem d_Mo_polynomial_209 : decode prog_10_method_19_code 209 = .ok (.lconst 0, 1) := by decide +kernel
theorem d_Mo_polynomial_210 : decode prog_10_method_19_code 210 = .ok (.lastore, 1) := by decide +kernel
theorem d_Mo_polynomial_211 : decode prog_10_method_19_code 211 = .ok (.iinc 2 1, 3) := by decide +kernel
theorem d_Mo_polynomial_214 : decode prog_10_method_19_code 214 = .ok (.goto (-16), 3) := by decide +kernel
theorem d_Mo_polynomial_217 : decode prog_10_method_19_code 217 = .ok (.iconst 0, 1) := by decide +kernel
theorem d_Mo_polynomial_218 : decode prog_10_method_19_code 218 = .ok (.istore_n 2, 1) := by decide +kernel
theorem d_Mo_polynomial_219 : decode prog_10_method_19_code 219 = .ok (.iload_n 2, 1) := by decide +kernel
theorem d_Mo_polynomial_220 : decode prog_10_method_19_code 220 = .ok (.aload_n 0, 1) := by decide +kernel
theorem d_Mo_polynomial_221 : decode prog_10_method_19_code 221 = .ok (.getfield 86, 3) := by decide +kernel
theorem d_Mo_polynomial_224 : decode prog_10_method_19_code 224 = .ok (.if_icmp .gt 143, 3) := by decide +kernel
theorem d_Mo_polynomial_227 : decode prog_10_method_19_code 227 = .ok (.iconst 0, 1) := by decide +kernel
theorem d_Mo_polynomial_228 : decode prog_10_method_19_code 228 = .ok (.istore_n 3, 1) := by decide +kernel
theorem d_Mo_polynomial_229 : decode prog_10_method_19_code 229 = .ok (.iload_n 3, 1) := by decide +kernel
theorem d_Mo_polynomial_230 : decode prog_10_method_19_code 230 = .ok (.bipush 13, 2) := by decide +kernel
theorem d_Mo_polynomial_232 : decode prog_10_method_19_code 232 = .ok (.if_icmp .gt 24, 3) := by decide +kernel
theorem d_Mo_polynomial_235 : decode prog_10_method_19_code 235 = .ok (.aload_n 0, 1) := by decide +kernel
theorem d_Mo_polynomial_236 : decode prog_10_method_19_code 236 = .ok (.getfield 45, 3) := by decide +kernel
theorem d_Mo_polynomial_239 : decode prog_10_method_19_code 239 = .ok (.iload_n 3, 1) := by decide +kernel
theorem d_Mo_polynomial_240 : decode prog_10_method_19_code 240 = .ok (.iload_n 3, 1) := by decide +kernel
theorem d_Mo_polynomial_241 : decode prog_10_method_19_code 241 = .ok (.ifCond .ne 7, 3) := by decide +kernel
theorem d_Mo_polynomial_244 : decode prog_10_method_19_code 244 = .ok (.lconst 1, 1) := by decide +kernel
theorem d_Mo_polynomial_245 : decode prog_10_method_19_code 245 = .ok (.goto 4, 3) := by decide +kernel
theorem d_Mo_polynomial_248 : decode prog_10_method_19_code 248 = .ok (.lconst 0, 1) := by decide +kernel
theorem d_Mo_polynomial_249 : decode prog_10_method_19_code 249 = .ok (.lastore, 1) := by decide +kernel
theorem d_Mo_polynomial_250 : decode prog_10_method_19_code 250 = .ok (.iinc 3 1, 3) := by decide +kernel
theorem d_Mo_polynomial_253 : decode prog_10_method_19_code 253 = .ok (.goto (-24), 3) := by decide +kernel
theorem d_Mo_polynomial_256 : decode prog_10_method_19_code 256 = .ok (.iconst 0, 1) := by decide +kernel
theorem d_Mo_polynomial_257 : decode prog_10_method_19_code 257 = .ok (.istore_n 3, 1) := by decide +kernel
theorem d_Mo_polynomial_258 : decode prog_10_method_19_code 258 = .ok (.iload_n 3, 1) := by decide +kernel
theorem d_Mo_polynomial_259 : decode prog_10_method_19_code 259 = .ok (.iload_n 2, 1) := by decide +kernel
theorem d_Mo_polynomial_260 : decode prog_10_method_19_code 260 = .ok (.if_icmp .ge 60, 3) := by decide +kernel
theorem d_Mo_polynomial_263 : decode prog_10_method_19_code 263 = .ok (.bipush 13, 2) := by decide +kernel
theorem d_Mo_polynomial_265 : decode prog_10_method_19_code 265 = .ok (.istore 4, 2) := by decide +kernel
theorem d_Mo_polynomial_267 : decode prog_10_method_19_code 267 = .ok (.iload 4, 2) := by decide +kernel
theorem d_Mo_polynomial_269 : decode prog_10_method_19_code 269 = .ok (.ifCond .lt 45, 3) := by decide +kernel
theorem d_Mo_polynomial_272 : decode prog_10_method_19_code 272 = .ok (.aload_n 0, 1) := by decide +kernel
theorem d_Mo_polynomial_273 : decode prog_10_method_19_code 273 = .ok (.getfield 45, 3) := by decide +kernel
theorem d_Mo_polynomial_276 : decode prog_10_method_19_code 276 = .ok (.iload 4, 2) := by decide +kernel
theorem d_Mo_polynomial_278 : decode prog_10_method_19_code 278 = .ok (.iload 4, 2) := by decide +kernel
theorem d_Mo_polynomial_280 : decode prog_10_method_19_code 280 = .ok (.ifCond .le 15, 3) := by decide +kernel
theorem d_Mo_polynomial_283 : decode prog_10_method_19_code 283 = .ok (.aload_n 0, 1) := by decide +kernel
theorem d_Mo_polynomial_284 : decode prog_10_method_19_code 284 = .ok (.getfield 45, 3) := by decide +kernel
theorem d_Mo_polynomial_287 : decode prog_10_method_19_code 287 = .ok (.iload 4, 2) := by decide +kernel
theorem d_Mo_polynomial_289 : decode prog_10_method_19_code 289 = .ok (.iconst 1, 1) := by decide +kernel
theorem d_Mo_polynomial_290 : decode prog_10_method_19_code 290 = .ok (.isub, 1) := by decide +kernel
theorem d_Mo_polynomial_291 : decode prog_10_method_19_code 291 = .ok (.laload, 1) := by decide +kernel
theorem d_Mo_polynomial_292 : decode prog_10_method_19_code 292 = .ok (.goto 4, 3) := by decide +kernel
theorem d_Mo_polynomial_295 : decode prog_10_method_19_code 295 = .ok (.lconst 0, 1) := by decide +kernel
theorem d_Mo_polynomial_296 : decode prog_10_method_19_code 296 = .ok (.iload_n 3, 1) := by decide +kernel
theorem d_Mo_polynomial_297 : decode prog_10_method_19_code 297 = .ok (.i2l, 1) := by decide +kernel
theorem d_Mo_polynomial_298 : decode prog_10_method_19_code 298 = .ok (.aload_n 0, 1) := by decide +kernel
theorem d_Mo_polynomial_299 : decode prog_10_method_19_code 299 = .ok (.getfield 45, 3) := by decide +kernel
theorem d_Mo_polynomial_302 : decode prog_10_method_19_code 302 = .ok (.iload 4, 2) := by decide +kernel
theorem d_Mo_polynomial_304 : decode prog_10_method_19_code 304 = .ok (.laload, 1) := by decide +kernel
theorem d_Mo_polynomial_305 : decode prog_10_method_19_code 305 = .ok (.lmul, 1) := by decide +kernel
theorem d_Mo_polynomial_306 : decode prog_10_method_19_code 306 = .ok (.lsub, 1) := by decide +kernel
theorem d_Mo_polynomial_307 : decode prog_10_method_19_code 307 = .ok (.lastore, 1) := by decide +kernel
theorem d_Mo_polynomial_308 : decode prog_10_method_19_code 308 = .ok (.iinc 4 (-1), 3) := by decide +kernel
theorem d_Mo_polynomial_311 : decode prog_10_method_19_code 311 = .ok (.goto (-44), 3) := by decide +kernel
theorem d_Mo_polynomial_314 : decode prog_10_method_19_code 314 = .ok (.iinc 3 1, 3) := by decide +kernel
theorem d_Mo_polynomial_317 : decode prog_10_method_19_code 317 = .ok (.goto (-59), 3) := by decide +kernel
theorem d_Mo_polynomial_320 : decode prog_10_method_19_code 320 = .ok (.iconst 0, 1) := by decide +kernel
theorem d_Mo_polynomial_321 : decode prog_10_method_19_code 321 = .ok (.istore_n 3, 1) := by decide +kernel
theorem d_Mo_polynomial_322 : decode prog_10_method_19_code 322 = .ok (.iload_n 3, 1) := by decide +kernel
theorem d_Mo_polynomial_323 : decode prog_10_method_19_code 323 = .ok (.bipush 13, 2) := by decide +kernel
theorem d_Mo_polynomial_325 : decode prog_10_method_19_code 325 = .ok (.if_icmp .gt 36, 3) := by decide +kernel
theorem d_Mo_polynomial_328 : decode prog_10_method_19_code 328 = .ok (.aload_n 0, 1) := by decide +kernel
theorem d_Mo_polynomial_329 : decode prog_10_method_19_code 329 = .ok (.getfield 52, 3) := by decide +kernel
theorem d_Mo_polynomial_332 : decode prog_10_method_19_code 332 = .ok (.iload_n 3, 1) := by decide +kernel
theorem d_Mo_polynomial_333 : decode prog_10_method_19_code 333 = .ok (.dup2, 1) := by decide +kernel
theorem d_Mo_polynomial_334 : decode prog_10_method_19_code 334 = .ok (.laload, 1) := by decide +kernel
theorem d_Mo_polynomial_335 : decode prog_10_method_19_code 335 = .ok (.aload_n 0, 1) := by decide +kernel
theorem d_Mo_polynomial_336 : decode prog_10_method_19_code 336 = .ok (.getfield 49, 3) := by decide +kernel
theorem d_Mo_polynomial_339 : decode prog_10_method_19_code 339 = .ok (.bipush 13, 2) := by decide +kernel
theorem d_Mo_polynomial_341 : decode prog_10_method_19_code 341 = .ok (.iload_n 1, 1) := by decide +kernel
theorem d_Mo_polynomial_342 : decode prog_10_method_19_code 342 = .ok (.imul, 1) := by decide +kernel
theorem d_Mo_polynomial_343 : decode prog_10_method_19_code 343 = .ok (.iload_n 2, 1) := by decide +kernel
theorem d_Mo_polynomial_344 : decode prog_10_method_19_code 344 = .ok (.iadd, 1) := by decide +kernel
theorem d_Mo_polynomial_345 : decode prog_10_method_19_code 345 = .ok (.laload, 1) := by decide +kernel
theorem d_Mo_polynomial_346 : decode prog_10_method_19_code 346 = .ok (.aload_n 0, 1) := by decide +kernel
theorem d_Mo_polynomial_347 : decode prog_10_method_19_code 347 = .ok (.getfield 45, 3) := by decide +kernel
theorem d_Mo_polynomial_350 : decode prog_10_method_19_code 350 = .ok (.iload_n 3, 1) := by decide +kernel
theorem d_Mo_polynomial_351 : decode prog_10_method_19_code 351 = .ok (.laload, 1) := by decide +kernel
theorem d_Mo_polynomial_352 : decode prog_10_method_19_code 352 = .ok (.lmul, 1) := by decide +kernel
theorem d_Mo_polynomial_353 : decode prog_10_method_19_code 353 = .ok (.ladd, 1) := by decide +kernel
theorem d_Mo_polynomial_354 : decode prog_10_method_19_code 354 = .ok (.lastore, 1) := by decide +kernel
theorem d_Mo_polynomial_355 : decode prog_10_method_19_code 355 = .ok (.iinc 3 1, 3) := by decide +kernel
theorem d_Mo_polynomial_358 : decode prog_10_method_19_code 358 = .ok (.goto (-36), 3) := by decide +kernel
theorem d_Mo_polynomial_361 : decode prog_10_method_19_code 361 = .ok (.iinc 2 1, 3) := by decide +kernel
theorem d_Mo_polynomial_364 : decode prog_10_method_19_code 364 = .ok (.goto (-145), 3) := by decide +kernel
theorem d_Mo_polynomial_367 : decode prog_10_method_19_code 367 = .ok (.return_, 1) := by decide +kernel
abbrev wd_Mo_polynomial (cI cJ cG cZ : ClassId) (a0 a0_from a0_to a0_near a0_lists a0_colours a0_shades a0_tints a0_attempt a0_taken a0_isApart a0_ways a0_next a0_splits a0_powers a0_row a0_many a0_can a0_could a0_arcRow a0_order a0_isOut : Nat) (v0_thrown : Int32) (v0_nodes : Int32) (v0_arcs : Int32) (v0_takenMany : Int32) (v0_leftBits : Int32) (v0_hasPolynomial : Int32) (v0_hasLists : Int32) (w0_near : Nat → Int32) (w0_isApart : Nat → Int32) (w0_next : Nat → Int64) (w0_splits : Nat → Int64) (w0_powers : Nat → Int64) : va_W := [(a0, .inr (8, [.int v0_thrown, .int v0_nodes, .int v0_arcs, .ref a0_from, .ref a0_to, .ref a0_near, .ref a0_lists, .ref a0_colours, .ref a0_shades, .ref a0_tints, .ref a0_attempt, .int v0_takenMany, .ref a0_taken, .int v0_leftBits, .ref a0_isApart, .ref a0_ways, .ref a0_next, .ref a0_splits, .ref a0_powers, .ref a0_row, .ref a0_many, .int v0_hasPolynomial, .int v0_hasLists, .ref a0_can, .ref a0_could, .ref a0_arcRow, .ref a0_order, .ref a0_isOut])), (a0_near, .inl (cI, 12, .inl w0_near)), (a0_isApart, .inl (cZ, 4096, .inl w0_isApart)), (a0_next, .inl (cJ, 4096, .inr (.inl w0_next))), (a0_splits, .inl (cJ, 53248, .inr (.inl w0_splits))), (a0_powers, .inl (cJ, 14, .inr (.inl w0_powers)))]
abbrev us_Mo_polynomial : List Cond := .code y_Mo_polynomial prog_10_method_19_code 8 none :: gtbl
abbrev rm_Mo_polynomial : Room := { frames := 1, cells := 0, slots := 0, locals := 23 }
def m_Mo_polynomial (F : Nat) (v0_thrown : Int32) (v0_nodes : Int32) (v0_arcs : Int32) (v0_takenMany : Int32) (v0_leftBits : Int32) (v0_hasPolynomial : Int32) (v0_hasLists : Int32) (w0_near : Nat → Int32) (w0_isApart : Nat → Int32) (w0_next : Nat → Int64) (w0_splits : Nat → Int64) (w0_powers : Nat → Int64) : Option (Int32 × (Nat → Int32) × (Nat → Int64) × (Nat → Int64) × (Nat → Int64)) :=
  if v0_hasPolynomial = 0 then (
    gM (m_Mo_sets F v0_thrown v0_nodes v0_arcs v0_takenMany v0_leftBits 1 v0_hasLists w0_near w0_isApart) (fun w0_isApart_2 =>
    gB (((1 : Int32) <<< (v0_nodes &&& 31)) - 1) (fun x1_4 =>
    gL (fun (k_28 : (Int32 × (Nat → Int64)) → Option (Int32 × (Nat → Int32) × (Nat → Int64) × (Nat → Int64) × (Nat → Int64))) (z_28 : Int32 × (Nat → Int64)) => match z_28 with
    | (x2_5, w0_splits_6) =>
    if x1_4 < x2_5 then (
      gL (fun (k_198 : (Int32 × (Nat → Int64)) → Option (Int32 × (Nat → Int32) × (Nat → Int64) × (Nat → Int64) × (Nat → Int64))) (z_198 : Int32 × (Nat → Int64)) => match z_198 with
      | (x2_8, w0_powers_9) =>
      if (13 : Int32) < x2_8 then (
        gL (fun (k_219 : (Int32 × (Nat → Int64) × (Nat → Int64)) → Option (Int32 × (Nat → Int32) × (Nat → Int64) × (Nat → Int64) × (Nat → Int64))) (z_219 : Int32 × (Nat → Int64) × (Nat → Int64)) => match z_219 with
        | (x2_11, w0_next_12, w0_powers_13) =>
        if v0_nodes < x2_11 then (
          some (1, w0_isApart_2, w0_next_12, w0_splits_6, w0_powers_13)
        ) else (
          gL (fun (k_229 : (Int32 × (Nat → Int64)) → Option (Int32 × (Nat → Int32) × (Nat → Int64) × (Nat → Int64) × (Nat → Int64))) (z_229 : Int32 × (Nat → Int64)) => match z_229 with
          | (x3_15, w0_next_16) =>
          if (13 : Int32) < x3_15 then (
            gL (fun (k_258 : (Int32 × (Nat → Int64)) → Option (Int32 × (Nat → Int32) × (Nat → Int64) × (Nat → Int64) × (Nat → Int64))) (z_258 : Int32 × (Nat → Int64)) => match z_258 with
            | (x3_18, w0_next_19) =>
            if x2_11 ≤ x3_18 then (
              gL (fun (k_322 : (Int32 × (Nat → Int64)) → Option (Int32 × (Nat → Int32) × (Nat → Int64) × (Nat → Int64) × (Nat → Int64))) (z_322 : Int32 × (Nat → Int64)) => match z_322 with
              | (x3_21, w0_powers_22) =>
              if (13 : Int32) < x3_21 then (
                gB (x2_11 + 1) (fun x2_24 =>
                k_219 (x2_24, w0_next_19, w0_powers_22))
              ) else (
                gC (inb x3_21 14) (
                gC (inb ((13 * x1_4) + x2_11) 53248) (
                gC (inb x3_21 4096) (
                gC (inb x3_21 14) (
                gB (x3_21 + 1) (fun x3_29 =>
                k_322 (x3_29, vp_updL w0_powers_22 x3_21.toNatClampNeg ((w0_powers_22 x3_21.toNatClampNeg) + ((w0_splits_6 ((13 * x1_4) + x2_11).toNatClampNeg) * (w0_next_19 x3_21.toNatClampNeg)))))))))
              )
              ) F (0, w0_powers_13)
            ) else (
              gL (fun (k_267 : (Int32 × (Nat → Int64)) → Option (Int32 × (Nat → Int32) × (Nat → Int64) × (Nat → Int64) × (Nat → Int64))) (z_267 : Int32 × (Nat → Int64)) => match z_267 with
              | (x4_30, w0_next_31) =>
              if x4_30 < 0 then (
                gB (x3_18 + 1) (fun x3_33 =>
                k_258 (x3_33, w0_next_31))
              ) else (
                gB (α := Int64 → Option (Int32 × (Nat → Int32) × (Nat → Int64) × (Nat → Int64) × (Nat → Int64))) (fun s_34 =>
                  gC (inb x4_30 4096) (
                  gC (inb x4_30 4096) (
                  gB (x4_30 + (-1)) (fun x4_37 =>
                  k_267 (x4_37, vp_updL w0_next_31 x4_30.toNatClampNeg (s_34 - (x3_18.toInt64 * (w0_next_31 x4_30.toNatClampNeg)))))))
                ) (fun J_296 =>
                if x4_30 ≤ 0 then (
                  J_296 0
                ) else (
                  gC (inb (x4_30 - 1) 4096) (
                  J_296 (w0_next_31 (x4_30 - 1).toNatClampNeg))
                )
                )
              )
              ) F (13, w0_next_19)
            )
            ) F (0, w0_next_16)
          ) else (
            gB (α := Int64 → Option (Int32 × (Nat → Int32) × (Nat → Int64) × (Nat → Int64) × (Nat → Int64))) (fun s_40 =>
              gC (inb x3_15 4096) (
              gB (x3_15 + 1) (fun x3_42 =>
              k_229 (x3_42, vp_updL w0_next_16 x3_15.toNatClampNeg s_40)))
            ) (fun J_249 =>
            if x3_15 = 0 then (
              J_249 1
            ) else (
              J_249 0
            )
            )
          )
          ) F (0, w0_next_12)
        )
        ) F (0, w0_next, w0_powers_9)
      ) else (
        gC (inb x2_8 14) (
        gB (x2_8 + 1) (fun x2_45 =>
        k_198 (x2_45, vp_updL w0_powers_9 x2_8.toNatClampNeg 0)))
      )
      ) F (0, w0_powers)
    ) else (
      gL (fun (k_35 : (Int32 × (Nat → Int64)) → Option (Int32 × (Nat → Int32) × (Nat → Int64) × (Nat → Int64) × (Nat → Int64))) (z_35 : Int32 × (Nat → Int64)) => match z_35 with
      | (x3_46, w0_splits_47) =>
      if v0_nodes < x3_46 then (
        gB (x2_5 &&& (-x2_5)) (fun x3_49 =>
        gB (x2_5 ^^^ x3_49) (fun x4_50 =>
        gB (α := Int32 → Option (Int32 × (Nat → Int32) × (Nat → Int64) × (Nat → Int64) × (Nat → Int64))) (fun s_51 =>
          gL (fun (k_98 : (Int32 × Int32 × (Nat → Int64)) → Option (Int32 × (Nat → Int32) × (Nat → Int64) × (Nat → Int64) × (Nat → Int64))) (z_98 : Int32 × Int32 × (Nat → Int64)) => match z_98 with
          | (x5_52, x6_53, w0_splits_54) =>
          if x5_52 = 0 then (
            gB (x2_5 + 1) (fun x2_56 =>
            k_28 (x2_56, w0_splits_54))
          ) else (
            gC (inb (x6_53 ||| x3_49) 4096) (
            gB (α := (Nat → Int64) → Option (Int32 × (Nat → Int32) × (Nat → Int64) × (Nat → Int64) × (Nat → Int64))) (fun w0_splits_58 =>
              gB (α := Int32 → Option (Int32 × (Nat → Int32) × (Nat → Int64) × (Nat → Int64) × (Nat → Int64))) (fun s_59 =>
                gB ((x6_53 - 1) &&& x4_50) (fun x6_60 =>
                k_98 (s_59, x6_60, w0_splits_58))
              ) (fun J_176 =>
              if x6_53 ≤ 0 then (
                J_176 0
              ) else (
                J_176 1
              )
              )
            ) (fun J_166 =>
            if (w0_isApart_2 (x6_53 ||| x3_49).toNatClampNeg) = 0 then (
              J_166 w0_splits_54
            ) else (
              gL (fun (k_118 : (Int32 × (Nat → Int64)) → Option (Int32 × (Nat → Int32) × (Nat → Int64) × (Nat → Int64) × (Nat → Int64))) (z_118 : Int32 × (Nat → Int64)) => match z_118 with
              | (x7_63, w0_splits_64) =>
              if v0_nodes < x7_63 then (
                J_166 w0_splits_64
              ) else (
                gC (inb ((13 * x2_5) + x7_63) 53248) (
                gC (inb (((13 * (x4_50 ^^^ x6_53)) + x7_63) - 1) 53248) (
                gC (inb ((13 * x2_5) + x7_63) 53248) (
                gB (x7_63 + 1) (fun x7_69 =>
                k_118 (x7_69, vp_updL w0_splits_64 ((13 * x2_5) + x7_63).toNatClampNeg ((w0_splits_64 ((13 * x2_5) + x7_63).toNatClampNeg) + (w0_splits_64 (((13 * (x4_50 ^^^ x6_53)) + x7_63) - 1).toNatClampNeg)))))))
              )
              ) F (1, w0_splits_54)
            )
            ))
          )
          ) F (s_51, x4_50, w0_splits_47)
        ) (fun J_92 =>
        if x2_5 ≤ 0 then (
          J_92 0
        ) else (
          J_92 1
        )
        )))
      ) else (
        gB (α := Int64 → Option (Int32 × (Nat → Int32) × (Nat → Int64) × (Nat → Int64) × (Nat → Int64))) (fun s_71 =>
          gC (inb ((13 * x2_5) + x3_46) 53248) (
          gB (x3_46 + 1) (fun x3_73 =>
          k_35 (x3_73, vp_updL w0_splits_47 ((13 * x2_5) + x3_46).toNatClampNeg s_71)))
        ) (fun J_66 =>
        gB (α := Option (Int32 × (Nat → Int32) × (Nat → Int64) × (Nat → Int64) × (Nat → Int64))) (
          J_66 0
        ) (fun J_65 =>
        if x2_5 = 0 then (
          if x3_46 = 0 then (
            J_66 1
          ) else (
            J_65
          )
        ) else (
          J_65
        )
        )
        )
      )
      ) F (0, w0_splits_6)
    )
    ) F (0, w0_splits)))
  ) else (
    some (v0_hasPolynomial, w0_isApart, w0_next, w0_splits, w0_powers)
  )
set_option maxHeartbeats 4000000 in
set_option maxRecDepth 100000 in
theorem c_Mo_polynomial (l : Launch) (dC : Nat → ClassId) (dI : Nat → Nat → Nat) (cI cJ cG cZ : ClassId) (a0 a0_from a0_to a0_near a0_lists a0_colours a0_shades a0_tints a0_attempt a0_taken a0_isApart a0_ways a0_next a0_splits a0_powers a0_row a0_many a0_can a0_could a0_arcRow a0_order a0_isOut : Nat) (sz : Nat) (F : Nat) (v0_thrown : Int32) (v0_nodes : Int32) (v0_arcs : Int32) (v0_takenMany : Int32) (v0_leftBits : Int32) (v0_hasPolynomial : Int32) (v0_hasLists : Int32) (w0_near : Nat → Int32) (w0_isApart : Nat → Int32) (w0_next : Nat → Int64) (w0_splits : Nat → Int64) (w0_powers : Nat → Int64) (o_v0_hasPolynomial : Int32) (o_w0_isApart : Nat → Int32) (o_w0_next : Nat → Int64) (o_w0_splits : Nat → Int64) (o_w0_powers : Nat → Int64) (hm : m_Mo_polynomial F v0_thrown v0_nodes v0_arcs v0_takenMany v0_leftBits v0_hasPolynomial v0_hasLists w0_near w0_isApart w0_next w0_splits w0_powers = some (o_v0_hasPolynomial, o_w0_isApart, o_w0_next, o_w0_splits, o_w0_powers)) : Met l y_Mo_polynomial us_Mo_polynomial rm_Mo_polynomial (PcS (dC, dI) (tyL cI cJ cG cZ) [.ref a0] sz (wd_Mo_polynomial cI cJ cG cZ a0 a0_from a0_to a0_near a0_lists a0_colours a0_shades a0_tints a0_attempt a0_taken a0_isApart a0_ways a0_next a0_splits a0_powers a0_row a0_many a0_can a0_could a0_arcRow a0_order a0_isOut v0_thrown v0_nodes v0_arcs v0_takenMany v0_leftBits v0_hasPolynomial v0_hasLists w0_near w0_isApart w0_next w0_splits w0_powers)) (va_Qv (fun (_ : Unit) => True) (fun _ t => PoS (dC, dI) (tyL cI cJ cG cZ) (wd_Mo_polynomial cI cJ cG cZ a0 a0_from a0_to a0_near a0_lists a0_colours a0_shades a0_tints a0_attempt a0_taken a0_isApart a0_ways a0_next a0_splits a0_powers a0_row a0_many a0_can a0_could a0_arcRow a0_order a0_isOut v0_thrown v0_nodes v0_arcs v0_takenMany v0_leftBits o_v0_hasPolynomial v0_hasLists w0_near o_w0_isApart o_w0_next o_w0_splits o_w0_powers) (va_A (wd_Mo_polynomial cI cJ cG cZ a0 a0_from a0_to a0_near a0_lists a0_colours a0_shades a0_tints a0_attempt a0_taken a0_isApart a0_ways a0_next a0_splits a0_powers a0_row a0_many a0_can a0_could a0_arcRow a0_order a0_isOut v0_thrown v0_nodes v0_arcs v0_takenMany v0_leftBits v0_hasPolynomial v0_hasLists w0_near w0_isApart w0_next w0_splits w0_powers) sz) t) (va_A (wd_Mo_polynomial cI cJ cG cZ a0 a0_from a0_to a0_near a0_lists a0_colours a0_shades a0_tints a0_attempt a0_taken a0_isApart a0_ways a0_next a0_splits a0_powers a0_row a0_many a0_can a0_could a0_arcRow a0_order a0_isOut v0_thrown v0_nodes v0_arcs v0_takenMany v0_leftBits v0_hasPolynomial v0_hasLists w0_near w0_isApart w0_next w0_splits w0_powers) sz)) 0 0 (va_A (wd_Mo_polynomial cI cJ cG cZ a0 a0_from a0_to a0_near a0_lists a0_colours a0_shades a0_tints a0_attempt a0_taken a0_isApart a0_ways a0_next a0_splits a0_powers a0_row a0_many a0_can a0_could a0_arcRow a0_order a0_isOut v0_thrown v0_nodes v0_arcs v0_takenMany v0_leftBits v0_hasPolynomial v0_hasLists w0_near w0_isApart w0_next w0_splits w0_powers) sz) := by
  refine Met.ofW (cc := prog_10_method_19_code) (maxL := 8) (ret := none) (by decide) rfl ?_
  intro p e s m args below meth c s₁ B hml hv
  obtain ⟨rfl, hsz, hP, hK, hD0, hNw⟩ := hv
  have hx := B.exec
  have hb := B.bytes
  have hr := B.returns
  have htt : ∀ w ∈ gtbl, w.before _ s = true := fun w h => atoms_spec (ws := us_Mo_polynomial) B.pre w (List.mem_cons_of_mem _ h)
  have hown : s.vm.findClass R_Mo = some m.cls := findClass_of_methodNamed B.named
  have hlocks := B.notSynchronized
  subst hsz
  have hD := hD0.self (sz := s.heap.size)
  generalize hAe : va_A (wd_Mo_polynomial cI cJ cG cZ a0 a0_from a0_to a0_near a0_lists a0_colours a0_shades a0_tints a0_attempt a0_taken a0_isApart a0_ways a0_next a0_splits a0_powers a0_row a0_many a0_can a0_could a0_arcRow a0_order a0_isOut v0_thrown v0_nodes v0_arcs v0_takenMany v0_leftBits v0_hasPolynomial v0_hasLists w0_near w0_isApart w0_next w0_splits w0_powers) s.heap.size = A at hD ⊢
  have hA : ∀ q : Nat, s.heap.size ≤ q → A q := fun q h => by rw [← hAe]; exact Or.inr h
  clear hAe hD0
  have hS : va_S A s.heap s.heap [] := va_S.rf
  have hl := lv_entry ([.ref a0]) (n := 8) (Nat.le_of_ble_eq_true rfl)
  rw [lg_entry_eq]
  generalize (lg_sl ([.ref a0]) ++ List.replicate (8 - (lg_sl ([.ref a0])).length) Slot.unset).toArray = ls at hl ⊢
  have hl : lv_has ls 8 [(0, .ref a0)] := hl
  generalize hH : s.heap = H at hP ⊢
  have hS : va_S A s.heap H [] := hH ▸ hS
  generalize hLo : ([] : List Loc) = locs at hS ⊢
  clear hH hLo
  unfold m_Mo_polynomial at hm
  refine lv_aload_n hx hb d_Mo_polynomial_0 rfl (lv_at hl 0 rfl) ?_
  refine va_get (D := (dC, dI)) (ci := 8) (v := .int v0_hasPolynomial) (C := R_Mo) (T := T_Mo) (N := 28) hx hb htt hin_Mo hown hK hP 0 rfl rfl 21 (by decide) (htt _ kt_790) (fun _ h9 => h9) rfl d_Mo_polynomial_1 ?_
  refine lv_if_eq (tgt := 8) hx hb d_Mo_polynomial_4 (by decide) (fun c_1 => ?_) (fun c_1 => ?_)
  · have hm := ite_t c_1 hm
    refine lv_aload_n hx hb d_Mo_polynomial_8 rfl (lv_at hl 0 rfl) ?_
    refine lv_iconst (v := 1) hx hb d_Mo_polynomial_9 (by decide) ?_
    refine va_put (D := (dC, dI)) (ci := 8) (v := .int 1) (ty := .boolean) (C := R_Mo) (T := T_Mo) (N := 28) hx hb htt hin_Mo ty_Mo tyok_Mo nm_Mo hown hK hP hD hS 0 rfl rfl 21 (by decide) (htt _ kt_790) (fun _ h9 => h9) rfl (by decide +kernel) rfl (by decide) (Nat.le_of_ble_eq_true rfl) d_Mo_polynomial_10 (fun H locs hP hD hS => ?_)
    have hP : va_P (dC, dI) vwCl (wd_Mo_polynomial cI cJ cG cZ a0 a0_from a0_to a0_near a0_lists a0_colours a0_shades a0_tints a0_attempt a0_taken a0_isApart a0_ways a0_next a0_splits a0_powers a0_row a0_many a0_can a0_could a0_arcRow a0_order a0_isOut v0_thrown v0_nodes v0_arcs v0_takenMany v0_leftBits 1 v0_hasLists w0_near w0_isApart w0_next w0_splits w0_powers) H := hP
    have hD : va_D A (wd_Mo_polynomial cI cJ cG cZ a0 a0_from a0_to a0_near a0_lists a0_colours a0_shades a0_tints a0_attempt a0_taken a0_isApart a0_ways a0_next a0_splits a0_powers a0_row a0_many a0_can a0_could a0_arcRow a0_order a0_isOut v0_thrown v0_nodes v0_arcs v0_takenMany v0_leftBits 1 v0_hasLists w0_near w0_isApart w0_next w0_splits w0_powers) := hD
    refine lv_aload_n hx hb d_Mo_polynomial_13 rfl (lv_at hl 0 rfl) ?_
    obtain ⟨w0_isApart_2, hc_3, hm⟩ := gM_e hm
    have hPc : va_P (dC, dI) vwCl (wd_Mo_sets cI cJ cG cZ a0 a0_from a0_to a0_near a0_lists a0_colours a0_shades a0_tints a0_attempt a0_taken a0_isApart a0_ways a0_next a0_splits a0_powers a0_row a0_many a0_can a0_could a0_arcRow a0_order a0_isOut v0_thrown v0_nodes v0_arcs v0_takenMany v0_leftBits 1 v0_hasLists w0_near w0_isApart) H := hP.sub [0, 1, 2] rfl
    have hDc : va_D A (wd_Mo_sets cI cJ cG cZ a0 a0_from a0_to a0_near a0_lists a0_colours a0_shades a0_tints a0_attempt a0_taken a0_isApart a0_ways a0_next a0_splits a0_powers a0_row a0_many a0_can a0_could a0_arcRow a0_order a0_isOut v0_thrown v0_nodes v0_arcs v0_takenMany v0_leftBits 1 v0_hasLists w0_near w0_isApart) := hD.sub [0, 1, 2] (by decide) rfl
    have hFc : ∀ q, va_A (wd_Mo_sets cI cJ cG cZ a0 a0_from a0_to a0_near a0_lists a0_colours a0_shades a0_tints a0_attempt a0_taken a0_isApart a0_ways a0_next a0_splits a0_powers a0_row a0_many a0_can a0_could a0_arcRow a0_order a0_isOut v0_thrown v0_nodes v0_arcs v0_takenMany v0_leftBits 1 v0_hasLists w0_near w0_isApart) H.size q → A q := va_free hD hS hA [0, 1, 2] rfl
    refine va_callv (va_runV (As := []) (rest := []) ⟨hx, hb, hml, hown, htt⟩ (c_Mo_sets l dC dI cI cJ cG cZ a0 a0_from a0_to a0_near a0_lists a0_colours a0_shades a0_tints a0_attempt a0_taken a0_isApart a0_ways a0_next a0_splits a0_powers a0_row a0_many a0_can a0_could a0_arcRow a0_order a0_isOut H.size F v0_thrown v0_nodes v0_arcs v0_takenMany v0_leftBits 1 v0_hasLists w0_near w0_isApart w0_isApart_2 hc_3) (cwV 0 htt (gdV kt_916 kt_918 kp_50 kt_10 kt_919) rfl rfl rfl (by decide +kernel) ⟨(Nat.le_of_ble_eq_true rfl), (Nat.le_of_ble_eq_true rfl)⟩) ⟨PcS_blind, va_recv hK hPc (ci := 8) (q0 := 0) rfl rfl, PcS_in hPc hK hDc hNw⟩ rfl rfl hl.1 rfl (lv_room (Nat.le_of_ble_eq_true rfl)) d_Mo_polynomial_14 ⟨Nat.zero_le _, Nat.zero_le _⟩) hS (fun q _ h => hFc q h) hFc (fun u t H1 locs ht hvm hw hB hz1 hk1 hS => ?_)
    obtain ⟨hP1, hK1, hD1⟩ := hB
    rw [ht] at hP1
    obtain ⟨hP, hD⟩ := va_join (wr := [(a0_next, .inl (cJ, 4096, .inr (.inl w0_next))), (a0_splits, .inl (cJ, 53248, .inr (.inl w0_splits))), (a0_powers, .inl (cJ, 14, .inr (.inl w0_powers)))]) (w1 := (wd_Mo_sets cI cJ cG cZ a0 a0_from a0_to a0_near a0_lists a0_colours a0_shades a0_tints a0_attempt a0_taken a0_isApart a0_ways a0_next a0_splits a0_powers a0_row a0_many a0_can a0_could a0_arcRow a0_order a0_isOut v0_thrown v0_nodes v0_arcs v0_takenMany v0_leftBits 1 v0_hasLists w0_near w0_isApart_2)) hP hD [0, 1, 2] [3, 4, 5] rfl rfl (by decide) (by decide) hk1 hFc hP1 hD1
    have hP : va_P (dC, dI) vwCl (wd_Mo_polynomial cI cJ cG cZ a0 a0_from a0_to a0_near a0_lists a0_colours a0_shades a0_tints a0_attempt a0_taken a0_isApart a0_ways a0_next a0_splits a0_powers a0_row a0_many a0_can a0_could a0_arcRow a0_order a0_isOut v0_thrown v0_nodes v0_arcs v0_takenMany v0_leftBits 1 v0_hasLists w0_near w0_isApart_2 w0_next w0_splits w0_powers) H1 := hP.sub [3, 4, 5, 0, 1, 2] rfl
    have hD : va_D A (wd_Mo_polynomial cI cJ cG cZ a0 a0_from a0_to a0_near a0_lists a0_colours a0_shades a0_tints a0_attempt a0_taken a0_isApart a0_ways a0_next a0_splits a0_powers a0_row a0_many a0_can a0_could a0_arcRow a0_order a0_isOut v0_thrown v0_nodes v0_arcs v0_takenMany v0_leftBits 1 v0_hasLists w0_near w0_isApart_2 w0_next w0_splits w0_powers) := hD.sub [3, 4, 5, 0, 1, 2] (by decide) rfl
    clear hP1 hK1 hD1 hk1 hPc hDc hFc ht hvm hz1
    generalize H1 = H at hP hS ⊢
    refine lv_iconst (v := 1) hx hb d_Mo_polynomial_17 (by decide) ?_
    refine lv_aload_n hx hb d_Mo_polynomial_18 rfl (lv_at hl 0 rfl) ?_
    refine va_get (D := (dC, dI)) (ci := 8) (v := .int v0_nodes) (C := R_Mo) (T := T_Mo) (N := 28) hx hb htt hin_Mo hown hK hP 0 rfl rfl 1 (by decide) (htt _ kt_770) (fun _ h9 => h9) rfl d_Mo_polynomial_19 ?_
    refine lv_ishl hx hb d_Mo_polynomial_22 ?_
    refine lv_iconst (v := 1) hx hb d_Mo_polynomial_23 (by decide) ?_
    refine lv_isub hx hb d_Mo_polynomial_24 ?_
    refine lv_topi (fun x1_4 ex1_4 => ?_)
    have hm := gB_at ex1_4 hm
    refine lv_istore_n (lv' := [(1, .int x1_4), (0, .ref a0)]) hx hb d_Mo_polynomial_25 rfl hl (by decide) rfl (fun ls hl => ?_)
    refine lv_iconst (v := 0) hx hb d_Mo_polynomial_26 (by decide) ?_
    refine lv_istore_n (lv' := [(2, .int 0), (1, .int x1_4), (0, .ref a0)]) hx hb d_Mo_polynomial_27 rfl hl (by decide) rfl (fun ls hl => ?_)
    refine gL_e (P := (fun (z_28 : Int32 × (Nat → Int64)) => ∀ (x2_5 : Int32), ∀ (w0_splits_6 : Nat → Int64), z_28 = (x2_5, w0_splits_6) → ∀ (ls : Array Slot) (H : Heap) (locs : List Loc), lv_has ls 8 [(0, .ref a0), (1, .int x1_4), (2, .int x2_5)] → va_P (dC, dI) vwCl (wd_Mo_polynomial cI cJ cG cZ a0 a0_from a0_to a0_near a0_lists a0_colours a0_shades a0_tints a0_attempt a0_taken a0_isApart a0_ways a0_next a0_splits a0_powers a0_row a0_many a0_can a0_could a0_arcRow a0_order a0_isOut v0_thrown v0_nodes v0_arcs v0_takenMany v0_leftBits 1 v0_hasLists w0_near w0_isApart_2 w0_next w0_splits_6 w0_powers) H → va_D A (wd_Mo_polynomial cI cJ cG cZ a0 a0_from a0_to a0_near a0_lists a0_colours a0_shades a0_tints a0_attempt a0_taken a0_isApart a0_ways a0_next a0_splits a0_powers a0_row a0_many a0_can a0_could a0_arcRow a0_order a0_isOut v0_thrown v0_nodes v0_arcs v0_takenMany v0_leftBits 1 v0_hasLists w0_near w0_isApart_2 w0_next w0_splits_6 w0_powers) → va_S A s.heap H locs → W p l e (headSpec us_Mo_polynomial rm_Mo_polynomial).room s m ([.ref a0] : List Value).toArray below meth c H locs 0 0 (MQ below (va_Qv (fun (_ : Unit) => True) (fun _ t => PoS (dC, dI) (tyL cI cJ cG cZ) (wd_Mo_polynomial cI cJ cG cZ a0 a0_from a0_to a0_near a0_lists a0_colours a0_shades a0_tints a0_attempt a0_taken a0_isApart a0_ways a0_next a0_splits a0_powers a0_row a0_many a0_can a0_could a0_arcRow a0_order a0_isOut v0_thrown v0_nodes v0_arcs v0_takenMany v0_leftBits o_v0_hasPolynomial v0_hasLists w0_near o_w0_isApart o_w0_next o_w0_splits o_w0_powers) A t) A) ([.ref a0] : List Value).toArray s 0 0 A) (F0 m 28 ls []))) hm (fun k_28 z_28 ih_28 hm => ?_) _ _ rfl ls H locs (lv_sub hl [2, 1, 0] rfl) hP hD hS
    intro x2_5 w0_splits_6 hz ls H locs hl hP hD hS
    subst hz
    dsimp only at hm
    refine lv_iload_n hx hb d_Mo_polynomial_28 rfl (lv_at hl 2 rfl) ?_
    refine lv_iload_n hx hb d_Mo_polynomial_29 rfl (lv_at hl 1 rfl) ?_
    refine lv_icmp_gt (tgt := 196) hx hb d_Mo_polynomial_30 (by decide) (fun c_7 => ?_) (fun c_7 => ?_)
    · have hm := ite_t c_7 hm
      refine lv_iconst (v := 0) hx hb d_Mo_polynomial_196 (by decide) ?_
      refine lv_istore_n (lv' := [(2, .int 0), (0, .ref a0), (1, .int x1_4)]) hx hb d_Mo_polynomial_197 rfl hl (by decide) rfl (fun ls hl => ?_)
      refine gL_e (P := (fun (z_198 : Int32 × (Nat → Int64)) => ∀ (x2_8 : Int32), ∀ (w0_powers_9 : Nat → Int64), z_198 = (x2_8, w0_powers_9) → ∀ (ls : Array Slot) (H : Heap) (locs : List Loc), lv_has ls 8 [(0, .ref a0), (1, .int x1_4), (2, .int x2_8)] → va_P (dC, dI) vwCl (wd_Mo_polynomial cI cJ cG cZ a0 a0_from a0_to a0_near a0_lists a0_colours a0_shades a0_tints a0_attempt a0_taken a0_isApart a0_ways a0_next a0_splits a0_powers a0_row a0_many a0_can a0_could a0_arcRow a0_order a0_isOut v0_thrown v0_nodes v0_arcs v0_takenMany v0_leftBits 1 v0_hasLists w0_near w0_isApart_2 w0_next w0_splits_6 w0_powers_9) H → va_D A (wd_Mo_polynomial cI cJ cG cZ a0 a0_from a0_to a0_near a0_lists a0_colours a0_shades a0_tints a0_attempt a0_taken a0_isApart a0_ways a0_next a0_splits a0_powers a0_row a0_many a0_can a0_could a0_arcRow a0_order a0_isOut v0_thrown v0_nodes v0_arcs v0_takenMany v0_leftBits 1 v0_hasLists w0_near w0_isApart_2 w0_next w0_splits_6 w0_powers_9) → va_S A s.heap H locs → W p l e (headSpec us_Mo_polynomial rm_Mo_polynomial).room s m ([.ref a0] : List Value).toArray below meth c H locs 0 0 (MQ below (va_Qv (fun (_ : Unit) => True) (fun _ t => PoS (dC, dI) (tyL cI cJ cG cZ) (wd_Mo_polynomial cI cJ cG cZ a0 a0_from a0_to a0_near a0_lists a0_colours a0_shades a0_tints a0_attempt a0_taken a0_isApart a0_ways a0_next a0_splits a0_powers a0_row a0_many a0_can a0_could a0_arcRow a0_order a0_isOut v0_thrown v0_nodes v0_arcs v0_takenMany v0_leftBits o_v0_hasPolynomial v0_hasLists w0_near o_w0_isApart o_w0_next o_w0_splits o_w0_powers) A t) A) ([.ref a0] : List Value).toArray s 0 0 A) (F0 m 198 ls []))) hm (fun k_198 z_198 ih_198 hm => ?_) _ _ rfl ls H locs (lv_sub hl [1, 2, 0] rfl) hP hD hS
      intro x2_8 w0_powers_9 hz ls H locs hl hP hD hS
      subst hz
      dsimp only at hm
      refine lv_iload_n hx hb d_Mo_polynomial_198 rfl (lv_at hl 2 rfl) ?_
      refine lv_bipush (v := 13) hx hb d_Mo_polynomial_199 (by decide) ?_
      refine lv_icmp_gt (tgt := 217) hx hb d_Mo_polynomial_201 (by decide) (fun c_10 => ?_) (fun c_10 => ?_)
      · have hm := ite_t c_10 hm
        refine lv_iconst (v := 0) hx hb d_Mo_polynomial_217 (by decide) ?_
        refine lv_istore_n (lv' := [(2, .int 0), (0, .ref a0), (1, .int x1_4)]) hx hb d_Mo_polynomial_218 rfl hl (by decide) rfl (fun ls hl => ?_)
        refine gL_e (P := (fun (z_219 : Int32 × (Nat → Int64) × (Nat → Int64)) => ∀ (x2_11 : Int32), ∀ (w0_next_12 : Nat → Int64), ∀ (w0_powers_13 : Nat → Int64), z_219 = (x2_11, w0_next_12, w0_powers_13) → ∀ (ls : Array Slot) (H : Heap) (locs : List Loc), lv_has ls 8 [(0, .ref a0), (1, .int x1_4), (2, .int x2_11)] → va_P (dC, dI) vwCl (wd_Mo_polynomial cI cJ cG cZ a0 a0_from a0_to a0_near a0_lists a0_colours a0_shades a0_tints a0_attempt a0_taken a0_isApart a0_ways a0_next a0_splits a0_powers a0_row a0_many a0_can a0_could a0_arcRow a0_order a0_isOut v0_thrown v0_nodes v0_arcs v0_takenMany v0_leftBits 1 v0_hasLists w0_near w0_isApart_2 w0_next_12 w0_splits_6 w0_powers_13) H → va_D A (wd_Mo_polynomial cI cJ cG cZ a0 a0_from a0_to a0_near a0_lists a0_colours a0_shades a0_tints a0_attempt a0_taken a0_isApart a0_ways a0_next a0_splits a0_powers a0_row a0_many a0_can a0_could a0_arcRow a0_order a0_isOut v0_thrown v0_nodes v0_arcs v0_takenMany v0_leftBits 1 v0_hasLists w0_near w0_isApart_2 w0_next_12 w0_splits_6 w0_powers_13) → va_S A s.heap H locs → W p l e (headSpec us_Mo_polynomial rm_Mo_polynomial).room s m ([.ref a0] : List Value).toArray below meth c H locs 0 0 (MQ below (va_Qv (fun (_ : Unit) => True) (fun _ t => PoS (dC, dI) (tyL cI cJ cG cZ) (wd_Mo_polynomial cI cJ cG cZ a0 a0_from a0_to a0_near a0_lists a0_colours a0_shades a0_tints a0_attempt a0_taken a0_isApart a0_ways a0_next a0_splits a0_powers a0_row a0_many a0_can a0_could a0_arcRow a0_order a0_isOut v0_thrown v0_nodes v0_arcs v0_takenMany v0_leftBits o_v0_hasPolynomial v0_hasLists w0_near o_w0_isApart o_w0_next o_w0_splits o_w0_powers) A t) A) ([.ref a0] : List Value).toArray s 0 0 A) (F0 m 219 ls []))) hm (fun k_219 z_219 ih_219 hm => ?_) _ _ _ rfl ls H locs (lv_sub hl [1, 2, 0] rfl) hP hD hS
        intro x2_11 w0_next_12 w0_powers_13 hz ls H locs hl hP hD hS
        subst hz
        dsimp only at hm
        refine lv_iload_n hx hb d_Mo_polynomial_219 rfl (lv_at hl 2 rfl) ?_
        refine lv_aload_n hx hb d_Mo_polynomial_220 rfl (lv_at hl 0 rfl) ?_
        refine va_get (D := (dC, dI)) (ci := 8) (v := .int v0_nodes) (C := R_Mo) (T := T_Mo) (N := 28) hx hb htt hin_Mo hown hK hP 0 rfl rfl 1 (by decide) (htt _ kt_770) (fun _ h9 => h9) rfl d_Mo_polynomial_221 ?_
        refine lv_icmp_gt (tgt := 367) hx hb d_Mo_polynomial_224 (by decide) (fun c_14 => ?_) (fun c_14 => ?_)
        · have hm := ite_t c_14 hm
          cases hm
          exact W.vret hx hb hr (fun t ht hW => ⟨⟨(), rfl, trivial, by rw [ht]; exact hP, va_K.moved hW.alike hK, hD⟩, hS.F ht⟩) hS.2.2 d_Mo_polynomial_367
        · have hm := ite_f c_14 hm
          refine lv_iconst (v := 0) hx hb d_Mo_polynomial_227 (by decide) ?_
          refine lv_istore_n (lv' := [(3, .int 0), (0, .ref a0), (1, .int x1_4), (2, .int x2_11)]) hx hb d_Mo_polynomial_228 rfl hl (by decide) rfl (fun ls hl => ?_)
          refine gL_e (P := (fun (z_229 : Int32 × (Nat → Int64)) => ∀ (x3_15 : Int32), ∀ (w0_next_16 : Nat → Int64), z_229 = (x3_15, w0_next_16) → ∀ (ls : Array Slot) (H : Heap) (locs : List Loc), lv_has ls 8 [(0, .ref a0), (1, .int x1_4), (2, .int x2_11), (3, .int x3_15)] → va_P (dC, dI) vwCl (wd_Mo_polynomial cI cJ cG cZ a0 a0_from a0_to a0_near a0_lists a0_colours a0_shades a0_tints a0_attempt a0_taken a0_isApart a0_ways a0_next a0_splits a0_powers a0_row a0_many a0_can a0_could a0_arcRow a0_order a0_isOut v0_thrown v0_nodes v0_arcs v0_takenMany v0_leftBits 1 v0_hasLists w0_near w0_isApart_2 w0_next_16 w0_splits_6 w0_powers_13) H → va_D A (wd_Mo_polynomial cI cJ cG cZ a0 a0_from a0_to a0_near a0_lists a0_colours a0_shades a0_tints a0_attempt a0_taken a0_isApart a0_ways a0_next a0_splits a0_powers a0_row a0_many a0_can a0_could a0_arcRow a0_order a0_isOut v0_thrown v0_nodes v0_arcs v0_takenMany v0_leftBits 1 v0_hasLists w0_near w0_isApart_2 w0_next_16 w0_splits_6 w0_powers_13) → va_S A s.heap H locs → W p l e (headSpec us_Mo_polynomial rm_Mo_polynomial).room s m ([.ref a0] : List Value).toArray below meth c H locs 0 0 (MQ below (va_Qv (fun (_ : Unit) => True) (fun _ t => PoS (dC, dI) (tyL cI cJ cG cZ) (wd_Mo_polynomial cI cJ cG cZ a0 a0_from a0_to a0_near a0_lists a0_colours a0_shades a0_tints a0_attempt a0_taken a0_isApart a0_ways a0_next a0_splits a0_powers a0_row a0_many a0_can a0_could a0_arcRow a0_order a0_isOut v0_thrown v0_nodes v0_arcs v0_takenMany v0_leftBits o_v0_hasPolynomial v0_hasLists w0_near o_w0_isApart o_w0_next o_w0_splits o_w0_powers) A t) A) ([.ref a0] : List Value).toArray s 0 0 A) (F0 m 229 ls []))) hm (fun k_229 z_229 ih_229 hm => ?_) _ _ rfl ls H locs (lv_sub hl [1, 2, 3, 0] rfl) hP hD hS
          intro x3_15 w0_next_16 hz ls H locs hl hP hD hS
          subst hz
          dsimp only at hm
          refine lv_iload_n hx hb d_Mo_polynomial_229 rfl (lv_at hl 3 rfl) ?_
          refine lv_bipush (v := 13) hx hb d_Mo_polynomial_230 (by decide) ?_
          refine lv_icmp_gt (tgt := 256) hx hb d_Mo_polynomial_232 (by decide) (fun c_17 => ?_) (fun c_17 => ?_)
          · have hm := ite_t c_17 hm
            refine lv_iconst (v := 0) hx hb d_Mo_polynomial_256 (by decide) ?_
            refine lv_istore_n (lv' := [(3, .int 0), (0, .ref a0), (1, .int x1_4), (2, .int x2_11)]) hx hb d_Mo_polynomial_257 rfl hl (by decide) rfl (fun ls hl => ?_)
            refine gL_e (P := (fun (z_258 : Int32 × (Nat → Int64)) => ∀ (x3_18 : Int32), ∀ (w0_next_19 : Nat → Int64), z_258 = (x3_18, w0_next_19) → ∀ (ls : Array Slot) (H : Heap) (locs : List Loc), lv_has ls 8 [(0, .ref a0), (1, .int x1_4), (2, .int x2_11), (3, .int x3_18)] → va_P (dC, dI) vwCl (wd_Mo_polynomial cI cJ cG cZ a0 a0_from a0_to a0_near a0_lists a0_colours a0_shades a0_tints a0_attempt a0_taken a0_isApart a0_ways a0_next a0_splits a0_powers a0_row a0_many a0_can a0_could a0_arcRow a0_order a0_isOut v0_thrown v0_nodes v0_arcs v0_takenMany v0_leftBits 1 v0_hasLists w0_near w0_isApart_2 w0_next_19 w0_splits_6 w0_powers_13) H → va_D A (wd_Mo_polynomial cI cJ cG cZ a0 a0_from a0_to a0_near a0_lists a0_colours a0_shades a0_tints a0_attempt a0_taken a0_isApart a0_ways a0_next a0_splits a0_powers a0_row a0_many a0_can a0_could a0_arcRow a0_order a0_isOut v0_thrown v0_nodes v0_arcs v0_takenMany v0_leftBits 1 v0_hasLists w0_near w0_isApart_2 w0_next_19 w0_splits_6 w0_powers_13) → va_S A s.heap H locs → W p l e (headSpec us_Mo_polynomial rm_Mo_polynomial).room s m ([.ref a0] : List Value).toArray below meth c H locs 0 0 (MQ below (va_Qv (fun (_ : Unit) => True) (fun _ t => PoS (dC, dI) (tyL cI cJ cG cZ) (wd_Mo_polynomial cI cJ cG cZ a0 a0_from a0_to a0_near a0_lists a0_colours a0_shades a0_tints a0_attempt a0_taken a0_isApart a0_ways a0_next a0_splits a0_powers a0_row a0_many a0_can a0_could a0_arcRow a0_order a0_isOut v0_thrown v0_nodes v0_arcs v0_takenMany v0_leftBits o_v0_hasPolynomial v0_hasLists w0_near o_w0_isApart o_w0_next o_w0_splits o_w0_powers) A t) A) ([.ref a0] : List Value).toArray s 0 0 A) (F0 m 258 ls []))) hm (fun k_258 z_258 ih_258 hm => ?_) _ _ rfl ls H locs (lv_sub hl [1, 2, 3, 0] rfl) hP hD hS
            intro x3_18 w0_next_19 hz ls H locs hl hP hD hS
            subst hz
            dsimp only at hm
            refine lv_iload_n hx hb d_Mo_polynomial_258 rfl (lv_at hl 3 rfl) ?_
            refine lv_iload_n hx hb d_Mo_polynomial_259 rfl (lv_at hl 2 rfl) ?_
            refine lv_icmp_ge (tgt := 320) hx hb d_Mo_polynomial_260 (by decide) (fun c_20 => ?_) (fun c_20 => ?_)
            · have hm := ite_t c_20 hm
              refine lv_iconst (v := 0) hx hb d_Mo_polynomial_320 (by decide) ?_
              refine lv_istore_n (lv' := [(3, .int 0), (0, .ref a0), (1, .int x1_4), (2, .int x2_11)]) hx hb d_Mo_polynomial_321 rfl hl (by decide) rfl (fun ls hl => ?_)
              refine gL_e (P := (fun (z_322 : Int32 × (Nat → Int64)) => ∀ (x3_21 : Int32), ∀ (w0_powers_22 : Nat → Int64), z_322 = (x3_21, w0_powers_22) → ∀ (ls : Array Slot) (H : Heap) (locs : List Loc), lv_has ls 8 [(0, .ref a0), (1, .int x1_4), (2, .int x2_11), (3, .int x3_21)] → va_P (dC, dI) vwCl (wd_Mo_polynomial cI cJ cG cZ a0 a0_from a0_to a0_near a0_lists a0_colours a0_shades a0_tints a0_attempt a0_taken a0_isApart a0_ways a0_next a0_splits a0_powers a0_row a0_many a0_can a0_could a0_arcRow a0_order a0_isOut v0_thrown v0_nodes v0_arcs v0_takenMany v0_leftBits 1 v0_hasLists w0_near w0_isApart_2 w0_next_19 w0_splits_6 w0_powers_22) H → va_D A (wd_Mo_polynomial cI cJ cG cZ a0 a0_from a0_to a0_near a0_lists a0_colours a0_shades a0_tints a0_attempt a0_taken a0_isApart a0_ways a0_next a0_splits a0_powers a0_row a0_many a0_can a0_could a0_arcRow a0_order a0_isOut v0_thrown v0_nodes v0_arcs v0_takenMany v0_leftBits 1 v0_hasLists w0_near w0_isApart_2 w0_next_19 w0_splits_6 w0_powers_22) → va_S A s.heap H locs → W p l e (headSpec us_Mo_polynomial rm_Mo_polynomial).room s m ([.ref a0] : List Value).toArray below meth c H locs 0 0 (MQ below (va_Qv (fun (_ : Unit) => True) (fun _ t => PoS (dC, dI) (tyL cI cJ cG cZ) (wd_Mo_polynomial cI cJ cG cZ a0 a0_from a0_to a0_near a0_lists a0_colours a0_shades a0_tints a0_attempt a0_taken a0_isApart a0_ways a0_next a0_splits a0_powers a0_row a0_many a0_can a0_could a0_arcRow a0_order a0_isOut v0_thrown v0_nodes v0_arcs v0_takenMany v0_leftBits o_v0_hasPolynomial v0_hasLists w0_near o_w0_isApart o_w0_next o_w0_splits o_w0_powers) A t) A) ([.ref a0] : List Value).toArray s 0 0 A) (F0 m 322 ls []))) hm (fun k_322 z_322 ih_322 hm => ?_) _ _ rfl ls H locs (lv_sub hl [1, 2, 3, 0] rfl) hP hD hS
              intro x3_21 w0_powers_22 hz ls H locs hl hP hD hS
              subst hz
              dsimp only at hm
              refine lv_iload_n hx hb d_Mo_polynomial_322 rfl (lv_at hl 3 rfl) ?_
              refine lv_bipush (v := 13) hx hb d_Mo_polynomial_323 (by decide) ?_
              refine lv_icmp_gt (tgt := 361) hx hb d_Mo_polynomial_325 (by decide) (fun c_23 => ?_) (fun c_23 => ?_)
              · have hm := ite_t c_23 hm
                obtain ⟨x2_24, ex2_24⟩ : ∃ y : Int32, y = x2_11 + 1 := ⟨_, rfl⟩
                have hm := gB_at ex2_24 hm
                refine lv_iinc (v := x2_24) (lv' := [(2, .int x2_24), (0, .ref a0), (1, .int x1_4), (3, .int x3_21)]) hx hb d_Mo_polynomial_361 hl (k := 2) rfl (by rw [ex2_24]; rfl) (by decide) rfl (fun ls hl => ?_)
                refine lv_goto (tgt := 219) hx hb d_Mo_polynomial_364 (by decide) ?_
                exact ih_219 _ hm _ _ _ rfl ls H locs (lv_sub hl [1, 2, 0] rfl) hP hD hS
              · have hm := ite_f c_23 hm
                refine lv_aload_n hx hb d_Mo_polynomial_328 rfl (lv_at hl 0 rfl) ?_
                refine va_get (D := (dC, dI)) (ci := 8) (v := .ref a0_powers) (C := R_Mo) (T := T_Mo) (N := 28) hx hb htt hin_Mo hown hK hP 0 rfl rfl 18 (by decide) (htt _ kt_787) (fun _ h9 => h9) rfl d_Mo_polynomial_329 ?_
                refine lv_iload_n hx hb d_Mo_polynomial_332 rfl (lv_at hl 3 rfl) ?_
                refine lv_dup2_11 hx hb d_Mo_polynomial_333 rfl rfl ?_
                obtain ⟨hi_25, hm⟩ := gC_e hm
                refine va_lald hx hb hK hP 5 1 rfl rfl (inb_vp hi_25) d_Mo_polynomial_334 ?_
                refine lv_aload_n hx hb d_Mo_polynomial_335 rfl (lv_at hl 0 rfl) ?_
                refine va_get (D := (dC, dI)) (ci := 8) (v := .ref a0_splits) (C := R_Mo) (T := T_Mo) (N := 28) hx hb htt hin_Mo hown hK hP 0 rfl rfl 17 (by decide) (htt _ kt_786) (fun _ h9 => h9) rfl d_Mo_polynomial_336 ?_
                refine lv_bipush (v := 13) hx hb d_Mo_polynomial_339 (by decide) ?_
                refine lv_iload_n hx hb d_Mo_polynomial_341 rfl (lv_at hl 1 rfl) ?_
                refine lv_imul hx hb d_Mo_polynomial_342 ?_
                refine lv_iload_n hx hb d_Mo_polynomial_343 rfl (lv_at hl 2 rfl) ?_
                refine lv_iadd hx hb d_Mo_polynomial_344 ?_
                obtain ⟨hi_26, hm⟩ := gC_e hm
                refine va_lald hx hb hK hP 4 1 rfl rfl (inb_vp hi_26) d_Mo_polynomial_345 ?_
                refine lv_aload_n hx hb d_Mo_polynomial_346 rfl (lv_at hl 0 rfl) ?_
                refine va_get (D := (dC, dI)) (ci := 8) (v := .ref a0_next) (C := R_Mo) (T := T_Mo) (N := 28) hx hb htt hin_Mo hown hK hP 0 rfl rfl 16 (by decide) (htt _ kt_785) (fun _ h9 => h9) rfl d_Mo_polynomial_347 ?_
                refine lv_iload_n hx hb d_Mo_polynomial_350 rfl (lv_at hl 3 rfl) ?_
                obtain ⟨hi_27, hm⟩ := gC_e hm
                refine va_lald hx hb hK hP 3 1 rfl rfl (inb_vp hi_27) d_Mo_polynomial_351 ?_
                refine lv_lmul hx hb d_Mo_polynomial_352 ?_
                refine lv_ladd hx hb d_Mo_polynomial_353 ?_
                obtain ⟨hi_28, hm⟩ := gC_e hm
                refine va_last hx hb hK hP hD hS 5 1 rfl rfl (inb_vp hi_28) d_Mo_polynomial_354 (fun H locs hP hD hS => ?_)
                have hP : va_P (dC, dI) vwCl (wd_Mo_polynomial cI cJ cG cZ a0 a0_from a0_to a0_near a0_lists a0_colours a0_shades a0_tints a0_attempt a0_taken a0_isApart a0_ways a0_next a0_splits a0_powers a0_row a0_many a0_can a0_could a0_arcRow a0_order a0_isOut v0_thrown v0_nodes v0_arcs v0_takenMany v0_leftBits 1 v0_hasLists w0_near w0_isApart_2 w0_next_19 w0_splits_6 (vp_updL w0_powers_22 x3_21.toNatClampNeg ((w0_powers_22 x3_21.toNatClampNeg) + ((w0_splits_6 ((13 * x1_4) + x2_11).toNatClampNeg) * (w0_next_19 x3_21.toNatClampNeg))))) H := hP
                have hD : va_D A (wd_Mo_polynomial cI cJ cG cZ a0 a0_from a0_to a0_near a0_lists a0_colours a0_shades a0_tints a0_attempt a0_taken a0_isApart a0_ways a0_next a0_splits a0_powers a0_row a0_many a0_can a0_could a0_arcRow a0_order a0_isOut v0_thrown v0_nodes v0_arcs v0_takenMany v0_leftBits 1 v0_hasLists w0_near w0_isApart_2 w0_next_19 w0_splits_6 (vp_updL w0_powers_22 x3_21.toNatClampNeg ((w0_powers_22 x3_21.toNatClampNeg) + ((w0_splits_6 ((13 * x1_4) + x2_11).toNatClampNeg) * (w0_next_19 x3_21.toNatClampNeg))))) := hD
                obtain ⟨x3_29, ex3_29⟩ : ∃ y : Int32, y = x3_21 + 1 := ⟨_, rfl⟩
                have hm := gB_at ex3_29 hm
                refine lv_iinc (v := x3_29) (lv' := [(3, .int x3_29), (0, .ref a0), (1, .int x1_4), (2, .int x2_11)]) hx hb d_Mo_polynomial_355 hl (k := 3) rfl (by rw [ex3_29]; rfl) (by decide) rfl (fun ls hl => ?_)
                refine lv_goto (tgt := 322) hx hb d_Mo_polynomial_358 (by decide) ?_
                exact ih_322 _ hm _ _ rfl ls H locs (lv_sub hl [1, 2, 3, 0] rfl) hP hD hS
            · have hm := ite_f c_20 hm
              refine lv_bipush (v := 13) hx hb d_Mo_polynomial_263 (by decide) ?_
              refine lv_istore (lv' := [(4, .int 13), (0, .ref a0), (1, .int x1_4), (2, .int x2_11), (3, .int x3_18)]) hx hb d_Mo_polynomial_265 hl (by decide) rfl (fun ls hl => ?_)
              refine gL_e (P := (fun (z_267 : Int32 × (Nat → Int64)) => ∀ (x4_30 : Int32), ∀ (w0_next_31 : Nat → Int64), z_267 = (x4_30, w0_next_31) → ∀ (ls : Array Slot) (H : Heap) (locs : List Loc), lv_has ls 8 [(0, .ref a0), (1, .int x1_4), (2, .int x2_11), (3, .int x3_18), (4, .int x4_30)] → va_P (dC, dI) vwCl (wd_Mo_polynomial cI cJ cG cZ a0 a0_from a0_to a0_near a0_lists a0_colours a0_shades a0_tints a0_attempt a0_taken a0_isApart a0_ways a0_next a0_splits a0_powers a0_row a0_many a0_can a0_could a0_arcRow a0_order a0_isOut v0_thrown v0_nodes v0_arcs v0_takenMany v0_leftBits 1 v0_hasLists w0_near w0_isApart_2 w0_next_31 w0_splits_6 w0_powers_13) H → va_D A (wd_Mo_polynomial cI cJ cG cZ a0 a0_from a0_to a0_near a0_lists a0_colours a0_shades a0_tints a0_attempt a0_taken a0_isApart a0_ways a0_next a0_splits a0_powers a0_row a0_many a0_can a0_could a0_arcRow a0_order a0_isOut v0_thrown v0_nodes v0_arcs v0_takenMany v0_leftBits 1 v0_hasLists w0_near w0_isApart_2 w0_next_31 w0_splits_6 w0_powers_13) → va_S A s.heap H locs → W p l e (headSpec us_Mo_polynomial rm_Mo_polynomial).room s m ([.ref a0] : List Value).toArray below meth c H locs 0 0 (MQ below (va_Qv (fun (_ : Unit) => True) (fun _ t => PoS (dC, dI) (tyL cI cJ cG cZ) (wd_Mo_polynomial cI cJ cG cZ a0 a0_from a0_to a0_near a0_lists a0_colours a0_shades a0_tints a0_attempt a0_taken a0_isApart a0_ways a0_next a0_splits a0_powers a0_row a0_many a0_can a0_could a0_arcRow a0_order a0_isOut v0_thrown v0_nodes v0_arcs v0_takenMany v0_leftBits o_v0_hasPolynomial v0_hasLists w0_near o_w0_isApart o_w0_next o_w0_splits o_w0_powers) A t) A) ([.ref a0] : List Value).toArray s 0 0 A) (F0 m 267 ls []))) hm (fun k_267 z_267 ih_267 hm => ?_) _ _ rfl ls H locs (lv_sub hl [1, 2, 3, 4, 0] rfl) hP hD hS
              intro x4_30 w0_next_31 hz ls H locs hl hP hD hS
              subst hz
              dsimp only at hm
              refine lv_iload hx hb d_Mo_polynomial_267 (lv_at hl 4 rfl) ?_
              refine lv_if_lt (tgt := 314) hx hb d_Mo_polynomial_269 (by decide) (fun c_32 => ?_) (fun c_32 => ?_)
              · have hm := ite_t c_32 hm
                obtain ⟨x3_33, ex3_33⟩ : ∃ y : Int32, y = x3_18 + 1 := ⟨_, rfl⟩
                have hm := gB_at ex3_33 hm
                refine lv_iinc (v := x3_33) (lv' := [(3, .int x3_33), (0, .ref a0), (1, .int x1_4), (2, .int x2_11), (4, .int x4_30)]) hx hb d_Mo_polynomial_314 hl (k := 3) rfl (by rw [ex3_33]; rfl) (by decide) rfl (fun ls hl => ?_)
                refine lv_goto (tgt := 258) hx hb d_Mo_polynomial_317 (by decide) ?_
                exact ih_258 _ hm _ _ rfl ls H locs (lv_sub hl [1, 2, 3, 0] rfl) hP hD hS
              · have hm := ite_f c_32 hm
                refine lv_aload_n hx hb d_Mo_polynomial_272 rfl (lv_at hl 0 rfl) ?_
                refine va_get (D := (dC, dI)) (ci := 8) (v := .ref a0_next) (C := R_Mo) (T := T_Mo) (N := 28) hx hb htt hin_Mo hown hK hP 0 rfl rfl 16 (by decide) (htt _ kt_785) (fun _ h9 => h9) rfl d_Mo_polynomial_273 ?_
                refine lv_iload hx hb d_Mo_polynomial_276 (lv_at hl 4 rfl) ?_
                refine lv_iload hx hb d_Mo_polynomial_278 (lv_at hl 4 rfl) ?_
                obtain ⟨J_296, hJ_296, hm⟩ := gB_x hm
                have jp_296 : ∀ (s_34 : Int64) (ls : Array Slot) (H : Heap) (locs : List Loc), J_296 s_34 = some (o_v0_hasPolynomial, o_w0_isApart, o_w0_next, o_w0_splits, o_w0_powers) → lv_has ls 8 [(0, .ref a0), (1, .int x1_4), (2, .int x2_11), (3, .int x3_18), (4, .int x4_30)] → va_P (dC, dI) vwCl (wd_Mo_polynomial cI cJ cG cZ a0 a0_from a0_to a0_near a0_lists a0_colours a0_shades a0_tints a0_attempt a0_taken a0_isApart a0_ways a0_next a0_splits a0_powers a0_row a0_many a0_can a0_could a0_arcRow a0_order a0_isOut v0_thrown v0_nodes v0_arcs v0_takenMany v0_leftBits 1 v0_hasLists w0_near w0_isApart_2 w0_next_31 w0_splits_6 w0_powers_13) H → va_D A (wd_Mo_polynomial cI cJ cG cZ a0 a0_from a0_to a0_near a0_lists a0_colours a0_shades a0_tints a0_attempt a0_taken a0_isApart a0_ways a0_next a0_splits a0_powers a0_row a0_many a0_can a0_could a0_arcRow a0_order a0_isOut v0_thrown v0_nodes v0_arcs v0_takenMany v0_leftBits 1 v0_hasLists w0_near w0_isApart_2 w0_next_31 w0_splits_6 w0_powers_13) → va_S A s.heap H locs → W p l e (headSpec us_Mo_polynomial rm_Mo_polynomial).room s m ([.ref a0] : List Value).toArray below meth c H locs 0 0 (MQ below (va_Qv (fun (_ : Unit) => True) (fun _ t => PoS (dC, dI) (tyL cI cJ cG cZ) (wd_Mo_polynomial cI cJ cG cZ a0 a0_from a0_to a0_near a0_lists a0_colours a0_shades a0_tints a0_attempt a0_taken a0_isApart a0_ways a0_next a0_splits a0_powers a0_row a0_many a0_can a0_could a0_arcRow a0_order a0_isOut v0_thrown v0_nodes v0_arcs v0_takenMany v0_leftBits o_v0_hasPolynomial v0_hasLists w0_near o_w0_isApart o_w0_next o_w0_splits o_w0_powers) A t) A) ([.ref a0] : List Value).toArray s 0 0 A) (F0 m 296 ls [.long s_34, .int x4_30, .ref a0_next]) := by
                  intro s_34 ls H locs hm hl hP hD hS
                  have hm := jn1 hJ_296 hm
                  refine lv_iload_n hx hb d_Mo_polynomial_296 rfl (lv_at hl 3 rfl) ?_
                  refine lv_i2l hx hb d_Mo_polynomial_297 rfl ?_
                  refine lv_aload_n hx hb d_Mo_polynomial_298 rfl (lv_at hl 0 rfl) ?_
                  refine va_get (D := (dC, dI)) (ci := 8) (v := .ref a0_next) (C := R_Mo) (T := T_Mo) (N := 28) hx hb htt hin_Mo hown hK hP 0 rfl rfl 16 (by decide) (htt _ kt_785) (fun _ h9 => h9) rfl d_Mo_polynomial_299 ?_
                  refine lv_iload hx hb d_Mo_polynomial_302 (lv_at hl 4 rfl) ?_
                  obtain ⟨hi_35, hm⟩ := gC_e hm
                  refine va_lald hx hb hK hP 3 1 rfl rfl (inb_vp hi_35) d_Mo_polynomial_304 ?_
                  refine lv_lmul hx hb d_Mo_polynomial_305 ?_
                  refine lv_lsub hx hb d_Mo_polynomial_306 ?_
                  obtain ⟨hi_36, hm⟩ := gC_e hm
                  refine va_last hx hb hK hP hD hS 3 1 rfl rfl (inb_vp hi_36) d_Mo_polynomial_307 (fun H locs hP hD hS => ?_)
                  have hP : va_P (dC, dI) vwCl (wd_Mo_polynomial cI cJ cG cZ a0 a0_from a0_to a0_near a0_lists a0_colours a0_shades a0_tints a0_attempt a0_taken a0_isApart a0_ways a0_next a0_splits a0_powers a0_row a0_many a0_can a0_could a0_arcRow a0_order a0_isOut v0_thrown v0_nodes v0_arcs v0_takenMany v0_leftBits 1 v0_hasLists w0_near w0_isApart_2 (vp_updL w0_next_31 x4_30.toNatClampNeg (s_34 - (x3_18.toInt64 * (w0_next_31 x4_30.toNatClampNeg)))) w0_splits_6 w0_powers_13) H := hP
                  have hD : va_D A (wd_Mo_polynomial cI cJ cG cZ a0 a0_from a0_to a0_near a0_lists a0_colours a0_shades a0_tints a0_attempt a0_taken a0_isApart a0_ways a0_next a0_splits a0_powers a0_row a0_many a0_can a0_could a0_arcRow a0_order a0_isOut v0_thrown v0_nodes v0_arcs v0_takenMany v0_leftBits 1 v0_hasLists w0_near w0_isApart_2 (vp_updL w0_next_31 x4_30.toNatClampNeg (s_34 - (x3_18.toInt64 * (w0_next_31 x4_30.toNatClampNeg)))) w0_splits_6 w0_powers_13) := hD
                  obtain ⟨x4_37, ex4_37⟩ : ∃ y : Int32, y = x4_30 + (-1) := ⟨_, rfl⟩
                  have hm := gB_at ex4_37 hm
                  refine lv_iinc (v := x4_37) (lv' := [(4, .int x4_37), (0, .ref a0), (1, .int x1_4), (2, .int x2_11), (3, .int x3_18)]) hx hb d_Mo_polynomial_308 hl (k := 4) rfl (by rw [ex4_37]; rfl) (by decide) rfl (fun ls hl => ?_)
                  refine lv_goto (tgt := 267) hx hb d_Mo_polynomial_311 (by decide) ?_
                  exact ih_267 _ hm _ _ rfl ls H locs (lv_sub hl [1, 2, 3, 4, 0] rfl) hP hD hS
                clear hJ_296
                refine lv_if_le (tgt := 295) hx hb d_Mo_polynomial_280 (by decide) (fun c_38 => ?_) (fun c_38 => ?_)
                · have hm := ite_t c_38 hm
                  refine lv_lconst (v := 0) hx hb d_Mo_polynomial_295 (by decide) ?_
                  exact jp_296 _ ls H locs hm (lv_sub hl [0, 1, 2, 3, 4] rfl) hP hD hS
                · have hm := ite_f c_38 hm
                  refine lv_aload_n hx hb d_Mo_polynomial_283 rfl (lv_at hl 0 rfl) ?_
                  refine va_get (D := (dC, dI)) (ci := 8) (v := .ref a0_next) (C := R_Mo) (T := T_Mo) (N := 28) hx hb htt hin_Mo hown hK hP 0 rfl rfl 16 (by decide) (htt _ kt_785) (fun _ h9 => h9) rfl d_Mo_polynomial_284 ?_
                  refine lv_iload hx hb d_Mo_polynomial_287 (lv_at hl 4 rfl) ?_
                  refine lv_iconst (v := 1) hx hb d_Mo_polynomial_289 (by decide) ?_
                  refine lv_isub hx hb d_Mo_polynomial_290 ?_
                  obtain ⟨hi_39, hm⟩ := gC_e hm
                  refine va_lald hx hb hK hP 3 1 rfl rfl (inb_vp hi_39) d_Mo_polynomial_291 ?_
                  refine lv_goto (tgt := 296) hx hb d_Mo_polynomial_292 (by decide) ?_
                  exact jp_296 _ ls H locs hm (lv_sub hl [0, 1, 2, 3, 4] rfl) hP hD hS
          · have hm := ite_f c_17 hm
            refine lv_aload_n hx hb d_Mo_polynomial_235 rfl (lv_at hl 0 rfl) ?_
            refine va_get (D := (dC, dI)) (ci := 8) (v := .ref a0_next) (C := R_Mo) (T := T_Mo) (N := 28) hx hb htt hin_Mo hown hK hP 0 rfl rfl 16 (by decide) (htt _ kt_785) (fun _ h9 => h9) rfl d_Mo_polynomial_236 ?_
            refine lv_iload_n hx hb d_Mo_polynomial_239 rfl (lv_at hl 3 rfl) ?_
            refine lv_iload_n hx hb d_Mo_polynomial_240 rfl (lv_at hl 3 rfl) ?_
            obtain ⟨J_249, hJ_249, hm⟩ := gB_x hm
            have jp_249 : ∀ (s_40 : Int64) (ls : Array Slot) (H : Heap) (locs : List Loc), J_249 s_40 = some (o_v0_hasPolynomial, o_w0_isApart, o_w0_next, o_w0_splits, o_w0_powers) → lv_has ls 8 [(0, .ref a0), (1, .int x1_4), (2, .int x2_11), (3, .int x3_15)] → va_P (dC, dI) vwCl (wd_Mo_polynomial cI cJ cG cZ a0 a0_from a0_to a0_near a0_lists a0_colours a0_shades a0_tints a0_attempt a0_taken a0_isApart a0_ways a0_next a0_splits a0_powers a0_row a0_many a0_can a0_could a0_arcRow a0_order a0_isOut v0_thrown v0_nodes v0_arcs v0_takenMany v0_leftBits 1 v0_hasLists w0_near w0_isApart_2 w0_next_16 w0_splits_6 w0_powers_13) H → va_D A (wd_Mo_polynomial cI cJ cG cZ a0 a0_from a0_to a0_near a0_lists a0_colours a0_shades a0_tints a0_attempt a0_taken a0_isApart a0_ways a0_next a0_splits a0_powers a0_row a0_many a0_can a0_could a0_arcRow a0_order a0_isOut v0_thrown v0_nodes v0_arcs v0_takenMany v0_leftBits 1 v0_hasLists w0_near w0_isApart_2 w0_next_16 w0_splits_6 w0_powers_13) → va_S A s.heap H locs → W p l e (headSpec us_Mo_polynomial rm_Mo_polynomial).room s m ([.ref a0] : List Value).toArray below meth c H locs 0 0 (MQ below (va_Qv (fun (_ : Unit) => True) (fun _ t => PoS (dC, dI) (tyL cI cJ cG cZ) (wd_Mo_polynomial cI cJ cG cZ a0 a0_from a0_to a0_near a0_lists a0_colours a0_shades a0_tints a0_attempt a0_taken a0_isApart a0_ways a0_next a0_splits a0_powers a0_row a0_many a0_can a0_could a0_arcRow a0_order a0_isOut v0_thrown v0_nodes v0_arcs v0_takenMany v0_leftBits o_v0_hasPolynomial v0_hasLists w0_near o_w0_isApart o_w0_next o_w0_splits o_w0_powers) A t) A) ([.ref a0] : List Value).toArray s 0 0 A) (F0 m 249 ls [.long s_40, .int x3_15, .ref a0_next]) := by
              intro s_40 ls H locs hm hl hP hD hS
              have hm := jn1 hJ_249 hm
              obtain ⟨hi_41, hm⟩ := gC_e hm
              refine va_last hx hb hK hP hD hS 3 1 rfl rfl (inb_vp hi_41) d_Mo_polynomial_249 (fun H locs hP hD hS => ?_)
              have hP : va_P (dC, dI) vwCl (wd_Mo_polynomial cI cJ cG cZ a0 a0_from a0_to a0_near a0_lists a0_colours a0_shades a0_tints a0_attempt a0_taken a0_isApart a0_ways a0_next a0_splits a0_powers a0_row a0_many a0_can a0_could a0_arcRow a0_order a0_isOut v0_thrown v0_nodes v0_arcs v0_takenMany v0_leftBits 1 v0_hasLists w0_near w0_isApart_2 (vp_updL w0_next_16 x3_15.toNatClampNeg s_40) w0_splits_6 w0_powers_13) H := hP
              have hD : va_D A (wd_Mo_polynomial cI cJ cG cZ a0 a0_from a0_to a0_near a0_lists a0_colours a0_shades a0_tints a0_attempt a0_taken a0_isApart a0_ways a0_next a0_splits a0_powers a0_row a0_many a0_can a0_could a0_arcRow a0_order a0_isOut v0_thrown v0_nodes v0_arcs v0_takenMany v0_leftBits 1 v0_hasLists w0_near w0_isApart_2 (vp_updL w0_next_16 x3_15.toNatClampNeg s_40) w0_splits_6 w0_powers_13) := hD
              obtain ⟨x3_42, ex3_42⟩ : ∃ y : Int32, y = x3_15 + 1 := ⟨_, rfl⟩
              have hm := gB_at ex3_42 hm
              refine lv_iinc (v := x3_42) (lv' := [(3, .int x3_42), (0, .ref a0), (1, .int x1_4), (2, .int x2_11)]) hx hb d_Mo_polynomial_250 hl (k := 3) rfl (by rw [ex3_42]; rfl) (by decide) rfl (fun ls hl => ?_)
              refine lv_goto (tgt := 229) hx hb d_Mo_polynomial_253 (by decide) ?_
              exact ih_229 _ hm _ _ rfl ls H locs (lv_sub hl [1, 2, 3, 0] rfl) hP hD hS
            clear hJ_249
            refine lv_if_ne (tgt := 248) hx hb d_Mo_polynomial_241 (by decide) (fun c_43 => ?_) (fun c_43 => ?_)
            · have hm := ite_f c_43 hm
              refine lv_lconst (v := 0) hx hb d_Mo_polynomial_248 (by decide) ?_
              exact jp_249 _ ls H locs hm (lv_sub hl [0, 1, 2, 3] rfl) hP hD hS
            · have hm := ite_t c_43 hm
              refine lv_lconst (v := 1) hx hb d_Mo_polynomial_244 (by decide) ?_
              refine lv_goto (tgt := 249) hx hb d_Mo_polynomial_245 (by decide) ?_
              exact jp_249 _ ls H locs hm (lv_sub hl [0, 1, 2, 3] rfl) hP hD hS
      · have hm := ite_f c_10 hm
        refine lv_aload_n hx hb d_Mo_polynomial_204 rfl (lv_at hl 0 rfl) ?_
        refine va_get (D := (dC, dI)) (ci := 8) (v := .ref a0_powers) (C := R_Mo) (T := T_Mo) (N := 28) hx hb htt hin_Mo hown hK hP 0 rfl rfl 18 (by decide) (htt _ kt_787) (fun _ h9 => h9) rfl d_Mo_polynomial_205 ?_
        refine lv_iload_n hx hb d_Mo_polynomial_208 rfl (lv_at hl 2 rfl) ?_
        refine lv_lconst (v := 0) hx hb d_Mo_polynomial_209 (by decide) ?_
        obtain ⟨hi_44, hm⟩ := gC_e hm
        refine va_last hx hb hK hP hD hS 5 1 rfl rfl (inb_vp hi_44) d_Mo_polynomial_210 (fun H locs hP hD hS => ?_)
        have hP : va_P (dC, dI) vwCl (wd_Mo_polynomial cI cJ cG cZ a0 a0_from a0_to a0_near a0_lists a0_colours a0_shades a0_tints a0_attempt a0_taken a0_isApart a0_ways a0_next a0_splits a0_powers a0_row a0_many a0_can a0_could a0_arcRow a0_order a0_isOut v0_thrown v0_nodes v0_arcs v0_takenMany v0_leftBits 1 v0_hasLists w0_near w0_isApart_2 w0_next w0_splits_6 (vp_updL w0_powers_9 x2_8.toNatClampNeg 0)) H := hP
        have hD : va_D A (wd_Mo_polynomial cI cJ cG cZ a0 a0_from a0_to a0_near a0_lists a0_colours a0_shades a0_tints a0_attempt a0_taken a0_isApart a0_ways a0_next a0_splits a0_powers a0_row a0_many a0_can a0_could a0_arcRow a0_order a0_isOut v0_thrown v0_nodes v0_arcs v0_takenMany v0_leftBits 1 v0_hasLists w0_near w0_isApart_2 w0_next w0_splits_6 (vp_updL w0_powers_9 x2_8.toNatClampNeg 0)) := hD
        obtain ⟨x2_45, ex2_45⟩ : ∃ y : Int32, y = x2_8 + 1 := ⟨_, rfl⟩
        have hm := gB_at ex2_45 hm
        refine lv_iinc (v := x2_45) (lv' := [(2, .int x2_45), (0, .ref a0), (1, .int x1_4)]) hx hb d_Mo_polynomial_211 hl (k := 2) rfl (by rw [ex2_45]; rfl) (by decide) rfl (fun ls hl => ?_)
        refine lv_goto (tgt := 198) hx hb d_Mo_polynomial_214 (by decide) ?_
        exact ih_198 _ hm _ _ rfl ls H locs (lv_sub hl [1, 2, 0] rfl) hP hD hS
    · have hm := ite_f c_7 hm
      refine lv_iconst (v := 0) hx hb d_Mo_polynomial_33 (by decide) ?_
      refine lv_istore_n (lv' := [(3, .int 0), (0, .ref a0), (1, .int x1_4), (2, .int x2_5)]) hx hb d_Mo_polynomial_34 rfl hl (by decide) rfl (fun ls hl => ?_)
      refine gL_e (P := (fun (z_35 : Int32 × (Nat → Int64)) => ∀ (x3_46 : Int32), ∀ (w0_splits_47 : Nat → Int64), z_35 = (x3_46, w0_splits_47) → ∀ (ls : Array Slot) (H : Heap) (locs : List Loc), lv_has ls 8 [(0, .ref a0), (1, .int x1_4), (2, .int x2_5), (3, .int x3_46)] → va_P (dC, dI) vwCl (wd_Mo_polynomial cI cJ cG cZ a0 a0_from a0_to a0_near a0_lists a0_colours a0_shades a0_tints a0_attempt a0_taken a0_isApart a0_ways a0_next a0_splits a0_powers a0_row a0_many a0_can a0_could a0_arcRow a0_order a0_isOut v0_thrown v0_nodes v0_arcs v0_takenMany v0_leftBits 1 v0_hasLists w0_near w0_isApart_2 w0_next w0_splits_47 w0_powers) H → va_D A (wd_Mo_polynomial cI cJ cG cZ a0 a0_from a0_to a0_near a0_lists a0_colours a0_shades a0_tints a0_attempt a0_taken a0_isApart a0_ways a0_next a0_splits a0_powers a0_row a0_many a0_can a0_could a0_arcRow a0_order a0_isOut v0_thrown v0_nodes v0_arcs v0_takenMany v0_leftBits 1 v0_hasLists w0_near w0_isApart_2 w0_next w0_splits_47 w0_powers) → va_S A s.heap H locs → W p l e (headSpec us_Mo_polynomial rm_Mo_polynomial).room s m ([.ref a0] : List Value).toArray below meth c H locs 0 0 (MQ below (va_Qv (fun (_ : Unit) => True) (fun _ t => PoS (dC, dI) (tyL cI cJ cG cZ) (wd_Mo_polynomial cI cJ cG cZ a0 a0_from a0_to a0_near a0_lists a0_colours a0_shades a0_tints a0_attempt a0_taken a0_isApart a0_ways a0_next a0_splits a0_powers a0_row a0_many a0_can a0_could a0_arcRow a0_order a0_isOut v0_thrown v0_nodes v0_arcs v0_takenMany v0_leftBits o_v0_hasPolynomial v0_hasLists w0_near o_w0_isApart o_w0_next o_w0_splits o_w0_powers) A t) A) ([.ref a0] : List Value).toArray s 0 0 A) (F0 m 35 ls []))) hm (fun k_35 z_35 ih_35 hm => ?_) _ _ rfl ls H locs (lv_sub hl [1, 2, 3, 0] rfl) hP hD hS
      intro x3_46 w0_splits_47 hz ls H locs hl hP hD hS
      subst hz
      dsimp only at hm
      refine lv_iload_n hx hb d_Mo_polynomial_35 rfl (lv_at hl 3 rfl) ?_
      refine lv_aload_n hx hb d_Mo_polynomial_36 rfl (lv_at hl 0 rfl) ?_
      refine va_get (D := (dC, dI)) (ci := 8) (v := .int v0_nodes) (C := R_Mo) (T := T_Mo) (N := 28) hx hb htt hin_Mo hown hK hP 0 rfl rfl 1 (by decide) (htt _ kt_770) (fun _ h9 => h9) rfl d_Mo_polynomial_37 ?_
      refine lv_icmp_gt (tgt := 73) hx hb d_Mo_polynomial_40 (by decide) (fun c_48 => ?_) (fun c_48 => ?_)
      · have hm := ite_t c_48 hm
        refine lv_iload_n hx hb d_Mo_polynomial_73 rfl (lv_at hl 2 rfl) ?_
        refine lv_iload_n hx hb d_Mo_polynomial_74 rfl (lv_at hl 2 rfl) ?_
        refine lv_ineg hx hb d_Mo_polynomial_75 ?_
        refine lv_iand hx hb d_Mo_polynomial_76 ?_
        refine lv_topi (fun x3_49 ex3_49 => ?_)
        have hm := gB_at ex3_49 hm
        refine lv_istore_n (lv' := [(3, .int x3_49), (0, .ref a0), (1, .int x1_4), (2, .int x2_5)]) hx hb d_Mo_polynomial_77 rfl hl (by decide) rfl (fun ls hl => ?_)
        refine lv_iload_n hx hb d_Mo_polynomial_78 rfl (lv_at hl 3 rfl) ?_
        refine lv_iload_n hx hb d_Mo_polynomial_79 rfl (lv_at hl 0 rfl) ?_
        refine lv_ixor hx hb d_Mo_polynomial_80 ?_
        refine lv_topi (fun x4_50 ex4_50 => ?_)
        have hm := gB_at ex4_50 hm
        refine lv_istore (lv' := [(4, .int x4_50), (3, .int x3_49), (0, .ref a0), (1, .int x1_4), (2, .int x2_5)]) hx hb d_Mo_polynomial_81 hl (by decide) rfl (fun ls hl => ?_)
        refine lv_iload_n hx hb d_Mo_polynomial_83 rfl (lv_at hl 4 rfl) ?_
        obtain ⟨J_92, hJ_92, hm⟩ := gB_x hm
        have jp_92 : ∀ (s_51 : Int32) (ls : Array Slot) (H : Heap) (locs : List Loc), J_92 s_51 = some (o_v0_hasPolynomial, o_w0_isApart, o_w0_next, o_w0_splits, o_w0_powers) → lv_has ls 8 [(0, .ref a0), (1, .int x1_4), (2, .int x2_5), (3, .int x3_49), (4, .int x4_50)] → va_P (dC, dI) vwCl (wd_Mo_polynomial cI cJ cG cZ a0 a0_from a0_to a0_near a0_lists a0_colours a0_shades a0_tints a0_attempt a0_taken a0_isApart a0_ways a0_next a0_splits a0_powers a0_row a0_many a0_can a0_could a0_arcRow a0_order a0_isOut v0_thrown v0_nodes v0_arcs v0_takenMany v0_leftBits 1 v0_hasLists w0_near w0_isApart_2 w0_next w0_splits_47 w0_powers) H → va_D A (wd_Mo_polynomial cI cJ cG cZ a0 a0_from a0_to a0_near a0_lists a0_colours a0_shades a0_tints a0_attempt a0_taken a0_isApart a0_ways a0_next a0_splits a0_powers a0_row a0_many a0_can a0_could a0_arcRow a0_order a0_isOut v0_thrown v0_nodes v0_arcs v0_takenMany v0_leftBits 1 v0_hasLists w0_near w0_isApart_2 w0_next w0_splits_47 w0_powers) → va_S A s.heap H locs → W p l e (headSpec us_Mo_polynomial rm_Mo_polynomial).room s m ([.ref a0] : List Value).toArray below meth c H locs 0 0 (MQ below (va_Qv (fun (_ : Unit) => True) (fun _ t => PoS (dC, dI) (tyL cI cJ cG cZ) (wd_Mo_polynomial cI cJ cG cZ a0 a0_from a0_to a0_near a0_lists a0_colours a0_shades a0_tints a0_attempt a0_taken a0_isApart a0_ways a0_next a0_splits a0_powers a0_row a0_many a0_can a0_could a0_arcRow a0_order a0_isOut v0_thrown v0_nodes v0_arcs v0_takenMany v0_leftBits o_v0_hasPolynomial v0_hasLists w0_near o_w0_isApart o_w0_next o_w0_splits o_w0_powers) A t) A) ([.ref a0] : List Value).toArray s 0 0 A) (F0 m 92 ls [.int s_51]) := by
          intro s_51 ls H locs hm hl hP hD hS
          have hm := jn1 hJ_92 hm
          refine lv_istore (lv' := [(5, .int s_51), (0, .ref a0), (1, .int x1_4), (2, .int x2_5), (3, .int x3_49), (4, .int x4_50)]) hx hb d_Mo_polynomial_92 hl (by decide) rfl (fun ls hl => ?_)
          refine lv_iload hx hb d_Mo_polynomial_94 (lv_at hl 5 rfl) ?_
          refine lv_istore (lv' := [(6, .int x4_50), (5, .int s_51), (0, .ref a0), (1, .int x1_4), (2, .int x2_5), (3, .int x3_49), (4, .int x4_50)]) hx hb d_Mo_polynomial_96 hl (by decide) rfl (fun ls hl => ?_)
          refine gL_e (P := (fun (z_98 : Int32 × Int32 × (Nat → Int64)) => ∀ (x5_52 : Int32), ∀ (x6_53 : Int32), ∀ (w0_splits_54 : Nat → Int64), z_98 = (x5_52, x6_53, w0_splits_54) → ∀ (ls : Array Slot) (H : Heap) (locs : List Loc), lv_has ls 8 [(0, .ref a0), (1, .int x1_4), (2, .int x2_5), (3, .int x3_49), (4, .int x4_50), (5, .int x5_52), (6, .int x6_53)] → va_P (dC, dI) vwCl (wd_Mo_polynomial cI cJ cG cZ a0 a0_from a0_to a0_near a0_lists a0_colours a0_shades a0_tints a0_attempt a0_taken a0_isApart a0_ways a0_next a0_splits a0_powers a0_row a0_many a0_can a0_could a0_arcRow a0_order a0_isOut v0_thrown v0_nodes v0_arcs v0_takenMany v0_leftBits 1 v0_hasLists w0_near w0_isApart_2 w0_next w0_splits_54 w0_powers) H → va_D A (wd_Mo_polynomial cI cJ cG cZ a0 a0_from a0_to a0_near a0_lists a0_colours a0_shades a0_tints a0_attempt a0_taken a0_isApart a0_ways a0_next a0_splits a0_powers a0_row a0_many a0_can a0_could a0_arcRow a0_order a0_isOut v0_thrown v0_nodes v0_arcs v0_takenMany v0_leftBits 1 v0_hasLists w0_near w0_isApart_2 w0_next w0_splits_54 w0_powers) → va_S A s.heap H locs → W p l e (headSpec us_Mo_polynomial rm_Mo_polynomial).room s m ([.ref a0] : List Value).toArray below meth c H locs 0 0 (MQ below (va_Qv (fun (_ : Unit) => True) (fun _ t => PoS (dC, dI) (tyL cI cJ cG cZ) (wd_Mo_polynomial cI cJ cG cZ a0 a0_from a0_to a0_near a0_lists a0_colours a0_shades a0_tints a0_attempt a0_taken a0_isApart a0_ways a0_next a0_splits a0_powers a0_row a0_many a0_can a0_could a0_arcRow a0_order a0_isOut v0_thrown v0_nodes v0_arcs v0_takenMany v0_leftBits o_v0_hasPolynomial v0_hasLists w0_near o_w0_isApart o_w0_next o_w0_splits o_w0_powers) A t) A) ([.ref a0] : List Value).toArray s 0 0 A) (F0 m 98 ls []))) hm (fun k_98 z_98 ih_98 hm => ?_) _ _ _ rfl ls H locs (lv_sub hl [2, 3, 4, 5, 6, 1, 0] rfl) hP hD hS
          intro x5_52 x6_53 w0_splits_54 hz ls H locs hl hP hD hS
          subst hz
          dsimp only at hm
          refine lv_iload hx hb d_Mo_polynomial_98 (lv_at hl 5 rfl) ?_
          refine lv_if_eq (tgt := 190) hx hb d_Mo_polynomial_100 (by decide) (fun c_55 => ?_) (fun c_55 => ?_)
          · have hm := ite_t c_55 hm
            obtain ⟨x2_56, ex2_56⟩ : ∃ y : Int32, y = x2_5 + 1 := ⟨_, rfl⟩
            have hm := gB_at ex2_56 hm
            refine lv_iinc (v := x2_56) (lv' := [(2, .int x2_56), (0, .ref a0), (1, .int x1_4), (3, .int x3_49), (4, .int x4_50), (5, .int x5_52), (6, .int x6_53)]) hx hb d_Mo_polynomial_190 hl (k := 2) rfl (by rw [ex2_56]; rfl) (by decide) rfl (fun ls hl => ?_)
            refine lv_goto (tgt := 28) hx hb d_Mo_polynomial_193 (by decide) ?_
            exact ih_28 _ hm _ _ rfl ls H locs (lv_sub hl [1, 2, 0] rfl) hP hD hS
          · have hm := ite_f c_55 hm
            refine lv_aload_n hx hb d_Mo_polynomial_103 rfl (lv_at hl 0 rfl) ?_
            refine va_get (D := (dC, dI)) (ci := 8) (v := .ref a0_isApart) (C := R_Mo) (T := T_Mo) (N := 28) hx hb htt hin_Mo hown hK hP 0 rfl rfl 14 (by decide) (htt _ kt_783) (fun _ h9 => h9) rfl d_Mo_polynomial_104 ?_
            refine lv_iload hx hb d_Mo_polynomial_107 (lv_at hl 6 rfl) ?_
            refine lv_iload_n hx hb d_Mo_polynomial_109 rfl (lv_at hl 3 rfl) ?_
            refine lv_ior hx hb d_Mo_polynomial_110 ?_
            obtain ⟨hi_57, hm⟩ := gC_e hm
            refine va_zald hx hb hK hP 2 3 rfl rfl (inb_vp hi_57) d_Mo_polynomial_111 ?_
            obtain ⟨J_166, hJ_166, hm⟩ := gB_x hm
            have jp_166 : ∀ (w0_splits_58 : Nat → Int64) (ls : Array Slot) (H : Heap) (locs : List Loc), J_166 w0_splits_58 = some (o_v0_hasPolynomial, o_w0_isApart, o_w0_next, o_w0_splits, o_w0_powers) → lv_has ls 8 [(0, .ref a0), (1, .int x1_4), (2, .int x2_5), (3, .int x3_49), (4, .int x4_50), (6, .int x6_53)] → va_P (dC, dI) vwCl (wd_Mo_polynomial cI cJ cG cZ a0 a0_from a0_to a0_near a0_lists a0_colours a0_shades a0_tints a0_attempt a0_taken a0_isApart a0_ways a0_next a0_splits a0_powers a0_row a0_many a0_can a0_could a0_arcRow a0_order a0_isOut v0_thrown v0_nodes v0_arcs v0_takenMany v0_leftBits 1 v0_hasLists w0_near w0_isApart_2 w0_next w0_splits_58 w0_powers) H → va_D A (wd_Mo_polynomial cI cJ cG cZ a0 a0_from a0_to a0_near a0_lists a0_colours a0_shades a0_tints a0_attempt a0_taken a0_isApart a0_ways a0_next a0_splits a0_powers a0_row a0_many a0_can a0_could a0_arcRow a0_order a0_isOut v0_thrown v0_nodes v0_arcs v0_takenMany v0_leftBits 1 v0_hasLists w0_near w0_isApart_2 w0_next w0_splits_58 w0_powers) → va_S A s.heap H locs → W p l e (headSpec us_Mo_polynomial rm_Mo_polynomial).room s m ([.ref a0] : List Value).toArray below meth c H locs 0 0 (MQ below (va_Qv (fun (_ : Unit) => True) (fun _ t => PoS (dC, dI) (tyL cI cJ cG cZ) (wd_Mo_polynomial cI cJ cG cZ a0 a0_from a0_to a0_near a0_lists a0_colours a0_shades a0_tints a0_attempt a0_taken a0_isApart a0_ways a0_next a0_splits a0_powers a0_row a0_many a0_can a0_could a0_arcRow a0_order a0_isOut v0_thrown v0_nodes v0_arcs v0_takenMany v0_leftBits o_v0_hasPolynomial v0_hasLists w0_near o_w0_isApart o_w0_next o_w0_splits o_w0_powers) A t) A) ([.ref a0] : List Value).toArray s 0 0 A) (F0 m 166 ls []) := by
              intro w0_splits_58 ls H locs hm hl hP hD hS
              have hm := jn1 hJ_166 hm
              refine lv_iload hx hb d_Mo_polynomial_166 (lv_at hl 5 rfl) ?_
              obtain ⟨J_176, hJ_176, hm⟩ := gB_x hm
              have jp_176 : ∀ (s_59 : Int32) (ls : Array Slot) (H : Heap) (locs : List Loc), J_176 s_59 = some (o_v0_hasPolynomial, o_w0_isApart, o_w0_next, o_w0_splits, o_w0_powers) → lv_has ls 8 [(0, .ref a0), (1, .int x1_4), (2, .int x2_5), (3, .int x3_49), (4, .int x4_50), (6, .int x6_53)] → va_P (dC, dI) vwCl (wd_Mo_polynomial cI cJ cG cZ a0 a0_from a0_to a0_near a0_lists a0_colours a0_shades a0_tints a0_attempt a0_taken a0_isApart a0_ways a0_next a0_splits a0_powers a0_row a0_many a0_can a0_could a0_arcRow a0_order a0_isOut v0_thrown v0_nodes v0_arcs v0_takenMany v0_leftBits 1 v0_hasLists w0_near w0_isApart_2 w0_next w0_splits_58 w0_powers) H → va_D A (wd_Mo_polynomial cI cJ cG cZ a0 a0_from a0_to a0_near a0_lists a0_colours a0_shades a0_tints a0_attempt a0_taken a0_isApart a0_ways a0_next a0_splits a0_powers a0_row a0_many a0_can a0_could a0_arcRow a0_order a0_isOut v0_thrown v0_nodes v0_arcs v0_takenMany v0_leftBits 1 v0_hasLists w0_near w0_isApart_2 w0_next w0_splits_58 w0_powers) → va_S A s.heap H locs → W p l e (headSpec us_Mo_polynomial rm_Mo_polynomial).room s m ([.ref a0] : List Value).toArray below meth c H locs 0 0 (MQ below (va_Qv (fun (_ : Unit) => True) (fun _ t => PoS (dC, dI) (tyL cI cJ cG cZ) (wd_Mo_polynomial cI cJ cG cZ a0 a0_from a0_to a0_near a0_lists a0_colours a0_shades a0_tints a0_attempt a0_taken a0_isApart a0_ways a0_next a0_splits a0_powers a0_row a0_many a0_can a0_could a0_arcRow a0_order a0_isOut v0_thrown v0_nodes v0_arcs v0_takenMany v0_leftBits o_v0_hasPolynomial v0_hasLists w0_near o_w0_isApart o_w0_next o_w0_splits o_w0_powers) A t) A) ([.ref a0] : List Value).toArray s 0 0 A) (F0 m 176 ls [.int s_59]) := by
                intro s_59 ls H locs hm hl hP hD hS
                have hm := jn1 hJ_176 hm
                refine lv_istore (lv' := [(5, .int s_59), (0, .ref a0), (1, .int x1_4), (2, .int x2_5), (3, .int x3_49), (4, .int x4_50), (6, .int x6_53)]) hx hb d_Mo_polynomial_176 hl (by decide) rfl (fun ls hl => ?_)
                refine lv_iload hx hb d_Mo_polynomial_178 (lv_at hl 6 rfl) ?_
                refine lv_iconst (v := 1) hx hb d_Mo_polynomial_180 (by decide) ?_
                refine lv_isub hx hb d_Mo_polynomial_181 ?_
                refine lv_iload hx hb d_Mo_polynomial_182 (lv_at hl 5 rfl) ?_
                refine lv_iand hx hb d_Mo_polynomial_184 ?_
                refine lv_topi (fun x6_60 ex6_60 => ?_)
                have hm := gB_at ex6_60 hm
                refine lv_istore (lv' := [(6, .int x6_60), (5, .int s_59), (0, .ref a0), (1, .int x1_4), (2, .int x2_5), (3, .int x3_49), (4, .int x4_50)]) hx hb d_Mo_polynomial_185 hl (by decide) rfl (fun ls hl => ?_)
                refine lv_goto (tgt := 98) hx hb d_Mo_polynomial_187 (by decide) ?_
                exact ih_98 _ hm _ _ _ rfl ls H locs (lv_sub hl [2, 3, 4, 5, 6, 1, 0] rfl) hP hD hS
              clear hJ_176
              refine lv_if_le (tgt := 175) hx hb d_Mo_polynomial_168 (by decide) (fun c_61 => ?_) (fun c_61 => ?_)
              · have hm := ite_t c_61 hm
                refine lv_iconst (v := 0) hx hb d_Mo_polynomial_175 (by decide) ?_
                exact jp_176 _ ls H locs hm (lv_sub hl [0, 1, 2, 3, 4, 5] rfl) hP hD hS
              · have hm := ite_f c_61 hm
                refine lv_iconst (v := 1) hx hb d_Mo_polynomial_171 (by decide) ?_
                refine lv_goto (tgt := 176) hx hb d_Mo_polynomial_172 (by decide) ?_
                exact jp_176 _ ls H locs hm (lv_sub hl [0, 1, 2, 3, 4, 5] rfl) hP hD hS
            clear hJ_166
            refine lv_if_eq (tgt := 166) hx hb d_Mo_polynomial_112 (by decide) (fun c_62 => ?_) (fun c_62 => ?_)
            · have hm := ite_t c_62 hm
              exact jp_166 _ ls H locs hm (lv_sub hl [0, 1, 2, 3, 4, 6] rfl) hP hD hS
            · have hm := ite_f c_62 hm
              refine lv_iconst (v := 1) hx hb d_Mo_polynomial_115 (by decide) ?_
              refine lv_istore (lv' := [(7, .int 1), (0, .ref a0), (1, .int x1_4), (2, .int x2_5), (3, .int x3_49), (4, .int x4_50), (5, .int x5_52), (6, .int x6_53)]) hx hb d_Mo_polynomial_116 hl (by decide) rfl (fun ls hl => ?_)
              refine gL_e (P := (fun (z_118 : Int32 × (Nat → Int64)) => ∀ (x7_63 : Int32), ∀ (w0_splits_64 : Nat → Int64), z_118 = (x7_63, w0_splits_64) → ∀ (ls : Array Slot) (H : Heap) (locs : List Loc), lv_has ls 8 [(0, .ref a0), (1, .int x1_4), (2, .int x2_5), (3, .int x3_49), (4, .int x4_50), (6, .int x6_53), (7, .int x7_63)] → va_P (dC, dI) vwCl (wd_Mo_polynomial cI cJ cG cZ a0 a0_from a0_to a0_near a0_lists a0_colours a0_shades a0_tints a0_attempt a0_taken a0_isApart a0_ways a0_next a0_splits a0_powers a0_row a0_many a0_can a0_could a0_arcRow a0_order a0_isOut v0_thrown v0_nodes v0_arcs v0_takenMany v0_leftBits 1 v0_hasLists w0_near w0_isApart_2 w0_next w0_splits_64 w0_powers) H → va_D A (wd_Mo_polynomial cI cJ cG cZ a0 a0_from a0_to a0_near a0_lists a0_colours a0_shades a0_tints a0_attempt a0_taken a0_isApart a0_ways a0_next a0_splits a0_powers a0_row a0_many a0_can a0_could a0_arcRow a0_order a0_isOut v0_thrown v0_nodes v0_arcs v0_takenMany v0_leftBits 1 v0_hasLists w0_near w0_isApart_2 w0_next w0_splits_64 w0_powers) → va_S A s.heap H locs → W p l e (headSpec us_Mo_polynomial rm_Mo_polynomial).room s m ([.ref a0] : List Value).toArray below meth c H locs 0 0 (MQ below (va_Qv (fun (_ : Unit) => True) (fun _ t => PoS (dC, dI) (tyL cI cJ cG cZ) (wd_Mo_polynomial cI cJ cG cZ a0 a0_from a0_to a0_near a0_lists a0_colours a0_shades a0_tints a0_attempt a0_taken a0_isApart a0_ways a0_next a0_splits a0_powers a0_row a0_many a0_can a0_could a0_arcRow a0_order a0_isOut v0_thrown v0_nodes v0_arcs v0_takenMany v0_leftBits o_v0_hasPolynomial v0_hasLists w0_near o_w0_isApart o_w0_next o_w0_splits o_w0_powers) A t) A) ([.ref a0] : List Value).toArray s 0 0 A) (F0 m 118 ls []))) hm (fun k_118 z_118 ih_118 hm => ?_) _ _ rfl ls H locs (lv_sub hl [1, 2, 3, 4, 5, 7, 0] rfl) hP hD hS
              intro x7_63 w0_splits_64 hz ls H locs hl hP hD hS
              subst hz
              dsimp only at hm
              refine lv_iload hx hb d_Mo_polynomial_118 (lv_at hl 6 rfl) ?_
              refine lv_aload_n hx hb d_Mo_polynomial_120 rfl (lv_at hl 0 rfl) ?_
              refine va_get (D := (dC, dI)) (ci := 8) (v := .int v0_nodes) (C := R_Mo) (T := T_Mo) (N := 28) hx hb htt hin_Mo hown hK hP 0 rfl rfl 1 (by decide) (htt _ kt_770) (fun _ h9 => h9) rfl d_Mo_polynomial_121 ?_
              refine lv_icmp_gt (tgt := 166) hx hb d_Mo_polynomial_124 (by decide) (fun c_65 => ?_) (fun c_65 => ?_)
              · have hm := ite_t c_65 hm
                exact jp_166 _ ls H locs hm (lv_sub hl [0, 1, 2, 3, 4, 5] rfl) hP hD hS
              · have hm := ite_f c_65 hm
                refine lv_aload_n hx hb d_Mo_polynomial_127 rfl (lv_at hl 0 rfl) ?_
                refine va_get (D := (dC, dI)) (ci := 8) (v := .ref a0_splits) (C := R_Mo) (T := T_Mo) (N := 28) hx hb htt hin_Mo hown hK hP 0 rfl rfl 17 (by decide) (htt _ kt_786) (fun _ h9 => h9) rfl d_Mo_polynomial_128 ?_
                refine lv_bipush (v := 13) hx hb d_Mo_polynomial_131 (by decide) ?_
                refine lv_iload_n hx hb d_Mo_polynomial_133 rfl (lv_at hl 2 rfl) ?_
                refine lv_imul hx hb d_Mo_polynomial_134 ?_
                refine lv_iload hx hb d_Mo_polynomial_135 (lv_at hl 6 rfl) ?_
                refine lv_iadd hx hb d_Mo_polynomial_137 ?_
                refine lv_dup2_11 hx hb d_Mo_polynomial_138 rfl rfl ?_
                obtain ⟨hi_66, hm⟩ := gC_e hm
                refine va_lald hx hb hK hP 4 1 rfl rfl (inb_vp hi_66) d_Mo_polynomial_139 ?_
                refine lv_aload_n hx hb d_Mo_polynomial_140 rfl (lv_at hl 0 rfl) ?_
                refine va_get (D := (dC, dI)) (ci := 8) (v := .ref a0_splits) (C := R_Mo) (T := T_Mo) (N := 28) hx hb htt hin_Mo hown hK hP 0 rfl rfl 17 (by decide) (htt _ kt_786) (fun _ h9 => h9) rfl d_Mo_polynomial_141 ?_
                refine lv_bipush (v := 13) hx hb d_Mo_polynomial_144 (by decide) ?_
                refine lv_iload hx hb d_Mo_polynomial_146 (lv_at hl 4 rfl) ?_
                refine lv_iload hx hb d_Mo_polynomial_148 (lv_at hl 5 rfl) ?_
                refine lv_ixor hx hb d_Mo_polynomial_150 ?_
                refine lv_imul hx hb d_Mo_polynomial_151 ?_
                refine lv_iload hx hb d_Mo_polynomial_152 (lv_at hl 6 rfl) ?_
                refine lv_iadd hx hb d_Mo_polynomial_154 ?_
                refine lv_iconst (v := 1) hx hb d_Mo_polynomial_155 (by decide) ?_
                refine lv_isub hx hb d_Mo_polynomial_156 ?_
                obtain ⟨hi_67, hm⟩ := gC_e hm
                refine va_lald hx hb hK hP 4 1 rfl rfl (inb_vp hi_67) d_Mo_polynomial_157 ?_
                refine lv_ladd hx hb d_Mo_polynomial_158 ?_
                obtain ⟨hi_68, hm⟩ := gC_e hm
                refine va_last hx hb hK hP hD hS 4 1 rfl rfl (inb_vp hi_68) d_Mo_polynomial_159 (fun H locs hP hD hS => ?_)
                have hP : va_P (dC, dI) vwCl (wd_Mo_polynomial cI cJ cG cZ a0 a0_from a0_to a0_near a0_lists a0_colours a0_shades a0_tints a0_attempt a0_taken a0_isApart a0_ways a0_next a0_splits a0_powers a0_row a0_many a0_can a0_could a0_arcRow a0_order a0_isOut v0_thrown v0_nodes v0_arcs v0_takenMany v0_leftBits 1 v0_hasLists w0_near w0_isApart_2 w0_next (vp_updL w0_splits_64 ((13 * x2_5) + x7_63).toNatClampNeg ((w0_splits_64 ((13 * x2_5) + x7_63).toNatClampNeg) + (w0_splits_64 (((13 * (x4_50 ^^^ x6_53)) + x7_63) - 1).toNatClampNeg))) w0_powers) H := hP
                have hD : va_D A (wd_Mo_polynomial cI cJ cG cZ a0 a0_from a0_to a0_near a0_lists a0_colours a0_shades a0_tints a0_attempt a0_taken a0_isApart a0_ways a0_next a0_splits a0_powers a0_row a0_many a0_can a0_could a0_arcRow a0_order a0_isOut v0_thrown v0_nodes v0_arcs v0_takenMany v0_leftBits 1 v0_hasLists w0_near w0_isApart_2 w0_next (vp_updL w0_splits_64 ((13 * x2_5) + x7_63).toNatClampNeg ((w0_splits_64 ((13 * x2_5) + x7_63).toNatClampNeg) + (w0_splits_64 (((13 * (x4_50 ^^^ x6_53)) + x7_63) - 1).toNatClampNeg))) w0_powers) := hD
                obtain ⟨x7_69, ex7_69⟩ : ∃ y : Int32, y = x7_63 + 1 := ⟨_, rfl⟩
                have hm := gB_at ex7_69 hm
                refine lv_iinc (v := x7_69) (lv' := [(7, .int x7_69), (0, .ref a0), (1, .int x1_4), (2, .int x2_5), (3, .int x3_49), (4, .int x4_50), (6, .int x6_53)]) hx hb d_Mo_polynomial_160 hl (k := 6) rfl (by rw [ex7_69]; rfl) (by decide) rfl (fun ls hl => ?_)
                refine lv_goto (tgt := 118) hx hb d_Mo_polynomial_163 (by decide) ?_
                exact ih_118 _ hm _ _ rfl ls H locs (lv_sub hl [1, 2, 3, 4, 5, 6, 0] rfl) hP hD hS
        clear hJ_92
        refine lv_if_le (tgt := 91) hx hb d_Mo_polynomial_84 (by decide) (fun c_70 => ?_) (fun c_70 => ?_)
        · have hm := ite_t c_70 hm
          refine lv_iconst (v := 0) hx hb d_Mo_polynomial_91 (by decide) ?_
          exact jp_92 _ ls H locs hm (lv_sub hl [2, 3, 4, 1, 0] rfl) hP hD hS
        · have hm := ite_f c_70 hm
          refine lv_iconst (v := 1) hx hb d_Mo_polynomial_87 (by decide) ?_
          refine lv_goto (tgt := 92) hx hb d_Mo_polynomial_88 (by decide) ?_
          exact jp_92 _ ls H locs hm (lv_sub hl [2, 3, 4, 1, 0] rfl) hP hD hS
      · have hm := ite_f c_48 hm
        refine lv_aload_n hx hb d_Mo_polynomial_43 rfl (lv_at hl 0 rfl) ?_
        refine va_get (D := (dC, dI)) (ci := 8) (v := .ref a0_splits) (C := R_Mo) (T := T_Mo) (N := 28) hx hb htt hin_Mo hown hK hP 0 rfl rfl 17 (by decide) (htt _ kt_786) (fun _ h9 => h9) rfl d_Mo_polynomial_44 ?_
        refine lv_bipush (v := 13) hx hb d_Mo_polynomial_47 (by decide) ?_
        refine lv_iload_n hx hb d_Mo_polynomial_49 rfl (lv_at hl 2 rfl) ?_
        refine lv_imul hx hb d_Mo_polynomial_50 ?_
        refine lv_iload_n hx hb d_Mo_polynomial_51 rfl (lv_at hl 3 rfl) ?_
        refine lv_iadd hx hb d_Mo_polynomial_52 ?_
        refine lv_iload_n hx hb d_Mo_polynomial_53 rfl (lv_at hl 2 rfl) ?_
        obtain ⟨J_66, hJ_66, hm⟩ := gB_x hm
        have jp_66 : ∀ (s_71 : Int64) (ls : Array Slot) (H : Heap) (locs : List Loc), J_66 s_71 = some (o_v0_hasPolynomial, o_w0_isApart, o_w0_next, o_w0_splits, o_w0_powers) → lv_has ls 8 [(0, .ref a0), (1, .int x1_4), (2, .int x2_5), (3, .int x3_46)] → va_P (dC, dI) vwCl (wd_Mo_polynomial cI cJ cG cZ a0 a0_from a0_to a0_near a0_lists a0_colours a0_shades a0_tints a0_attempt a0_taken a0_isApart a0_ways a0_next a0_splits a0_powers a0_row a0_many a0_can a0_could a0_arcRow a0_order a0_isOut v0_thrown v0_nodes v0_arcs v0_takenMany v0_leftBits 1 v0_hasLists w0_near w0_isApart_2 w0_next w0_splits_47 w0_powers) H → va_D A (wd_Mo_polynomial cI cJ cG cZ a0 a0_from a0_to a0_near a0_lists a0_colours a0_shades a0_tints a0_attempt a0_taken a0_isApart a0_ways a0_next a0_splits a0_powers a0_row a0_many a0_can a0_could a0_arcRow a0_order a0_isOut v0_thrown v0_nodes v0_arcs v0_takenMany v0_leftBits 1 v0_hasLists w0_near w0_isApart_2 w0_next w0_splits_47 w0_powers) → va_S A s.heap H locs → W p l e (headSpec us_Mo_polynomial rm_Mo_polynomial).room s m ([.ref a0] : List Value).toArray below meth c H locs 0 0 (MQ below (va_Qv (fun (_ : Unit) => True) (fun _ t => PoS (dC, dI) (tyL cI cJ cG cZ) (wd_Mo_polynomial cI cJ cG cZ a0 a0_from a0_to a0_near a0_lists a0_colours a0_shades a0_tints a0_attempt a0_taken a0_isApart a0_ways a0_next a0_splits a0_powers a0_row a0_many a0_can a0_could a0_arcRow a0_order a0_isOut v0_thrown v0_nodes v0_arcs v0_takenMany v0_leftBits o_v0_hasPolynomial v0_hasLists w0_near o_w0_isApart o_w0_next o_w0_splits o_w0_powers) A t) A) ([.ref a0] : List Value).toArray s 0 0 A) (F0 m 66 ls [.long s_71, .int ((13 * x2_5) + x3_46), .ref a0_splits]) := by
          intro s_71 ls H locs hm hl hP hD hS
          have hm := jn1 hJ_66 hm
          obtain ⟨hi_72, hm⟩ := gC_e hm
          refine va_last hx hb hK hP hD hS 4 1 rfl rfl (inb_vp hi_72) d_Mo_polynomial_66 (fun H locs hP hD hS => ?_)
          have hP : va_P (dC, dI) vwCl (wd_Mo_polynomial cI cJ cG cZ a0 a0_from a0_to a0_near a0_lists a0_colours a0_shades a0_tints a0_attempt a0_taken a0_isApart a0_ways a0_next a0_splits a0_powers a0_row a0_many a0_can a0_could a0_arcRow a0_order a0_isOut v0_thrown v0_nodes v0_arcs v0_takenMany v0_leftBits 1 v0_hasLists w0_near w0_isApart_2 w0_next (vp_updL w0_splits_47 ((13 * x2_5) + x3_46).toNatClampNeg s_71) w0_powers) H := hP
          have hD : va_D A (wd_Mo_polynomial cI cJ cG cZ a0 a0_from a0_to a0_near a0_lists a0_colours a0_shades a0_tints a0_attempt a0_taken a0_isApart a0_ways a0_next a0_splits a0_powers a0_row a0_many a0_can a0_could a0_arcRow a0_order a0_isOut v0_thrown v0_nodes v0_arcs v0_takenMany v0_leftBits 1 v0_hasLists w0_near w0_isApart_2 w0_next (vp_updL w0_splits_47 ((13 * x2_5) + x3_46).toNatClampNeg s_71) w0_powers) := hD
          obtain ⟨x3_73, ex3_73⟩ : ∃ y : Int32, y = x3_46 + 1 := ⟨_, rfl⟩
          have hm := gB_at ex3_73 hm
          refine lv_iinc (v := x3_73) (lv' := [(3, .int x3_73), (0, .ref a0), (1, .int x1_4), (2, .int x2_5)]) hx hb d_Mo_polynomial_67 hl (k := 3) rfl (by rw [ex3_73]; rfl) (by decide) rfl (fun ls hl => ?_)
          refine lv_goto (tgt := 35) hx hb d_Mo_polynomial_70 (by decide) ?_
          exact ih_35 _ hm _ _ rfl ls H locs (lv_sub hl [1, 2, 3, 0] rfl) hP hD hS
        clear hJ_66
        obtain ⟨J_65, hJ_65, hm⟩ := gB_x hm
        have jp_65 : ∀ (ls : Array Slot) (H : Heap) (locs : List Loc), J_65 = some (o_v0_hasPolynomial, o_w0_isApart, o_w0_next, o_w0_splits, o_w0_powers) → lv_has ls 8 [(0, .ref a0), (1, .int x1_4), (2, .int x2_5), (3, .int x3_46)] → va_P (dC, dI) vwCl (wd_Mo_polynomial cI cJ cG cZ a0 a0_from a0_to a0_near a0_lists a0_colours a0_shades a0_tints a0_attempt a0_taken a0_isApart a0_ways a0_next a0_splits a0_powers a0_row a0_many a0_can a0_could a0_arcRow a0_order a0_isOut v0_thrown v0_nodes v0_arcs v0_takenMany v0_leftBits 1 v0_hasLists w0_near w0_isApart_2 w0_next w0_splits_47 w0_powers) H → va_D A (wd_Mo_polynomial cI cJ cG cZ a0 a0_from a0_to a0_near a0_lists a0_colours a0_shades a0_tints a0_attempt a0_taken a0_isApart a0_ways a0_next a0_splits a0_powers a0_row a0_many a0_can a0_could a0_arcRow a0_order a0_isOut v0_thrown v0_nodes v0_arcs v0_takenMany v0_leftBits 1 v0_hasLists w0_near w0_isApart_2 w0_next w0_splits_47 w0_powers) → va_S A s.heap H locs → W p l e (headSpec us_Mo_polynomial rm_Mo_polynomial).room s m ([.ref a0] : List Value).toArray below meth c H locs 0 0 (MQ below (va_Qv (fun (_ : Unit) => True) (fun _ t => PoS (dC, dI) (tyL cI cJ cG cZ) (wd_Mo_polynomial cI cJ cG cZ a0 a0_from a0_to a0_near a0_lists a0_colours a0_shades a0_tints a0_attempt a0_taken a0_isApart a0_ways a0_next a0_splits a0_powers a0_row a0_many a0_can a0_could a0_arcRow a0_order a0_isOut v0_thrown v0_nodes v0_arcs v0_takenMany v0_leftBits o_v0_hasPolynomial v0_hasLists w0_near o_w0_isApart o_w0_next o_w0_splits o_w0_powers) A t) A) ([.ref a0] : List Value).toArray s 0 0 A) (F0 m 65 ls [.int ((13 * x2_5) + x3_46), .ref a0_splits]) := by
          intro ls H locs hm hl hP hD hS
          have hm := jn0 hJ_65 hm
          refine lv_lconst (v := 0) hx hb d_Mo_polynomial_65 (by decide) ?_
          exact jp_66 _ ls H locs hm (lv_sub hl [0, 1, 2, 3] rfl) hP hD hS
        clear hJ_65
        refine lv_if_ne (tgt := 65) hx hb d_Mo_polynomial_54 (by decide) (fun c_74 => ?_) (fun c_74 => ?_)
        · have hm := ite_f c_74 hm
          exact jp_65 ls H locs hm (lv_sub hl [0, 1, 2, 3] rfl) hP hD hS
        · have hm := ite_t c_74 hm
          refine lv_iload_n hx hb d_Mo_polynomial_57 rfl (lv_at hl 3 rfl) ?_
          refine lv_if_ne (tgt := 65) hx hb d_Mo_polynomial_58 (by decide) (fun c_75 => ?_) (fun c_75 => ?_)
          · have hm := ite_f c_75 hm
            exact jp_65 ls H locs hm (lv_sub hl [0, 1, 2, 3] rfl) hP hD hS
          · have hm := ite_t c_75 hm
            refine lv_lconst (v := 1) hx hb d_Mo_polynomial_61 (by decide) ?_
            refine lv_goto (tgt := 66) hx hb d_Mo_polynomial_62 (by decide) ?_
            exact jp_66 _ ls H locs hm (lv_sub hl [0, 1, 2, 3] rfl) hP hD hS
  · have hm := ite_f c_1 hm
    cases hm
    exact W.vret hx hb hr (fun t ht hW => ⟨⟨(), rfl, trivial, by rw [ht]; exact hP, va_K.moved hW.alike hK, hD⟩, hS.F ht⟩) hS.2.2 d_Mo_polynomial_7
