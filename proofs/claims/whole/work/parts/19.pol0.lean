theorem d_Pol_farPair_0 : decode prog_6_method_6_code 0 = .ok (.aload_n 0, 1) := by decide +kernel
theorem d_Pol_farPair_1 : decode prog_6_method_6_code 1 = .ok (.getfield 13, 3) := by decide +kernel
theorem d_Pol_farPair_4 : decode prog_6_method_6_code 4 = .ok (.iload_n 1, 1) := by decide +kernel
theorem d_Pol_farPair_5 : decode prog_6_method_6_code 5 = .ok (.aaload, 1) := by decide +kernel
theorem d_Pol_farPair_6 : decode prog_6_method_6_code 6 = .ok (.astore_n 3, 1) := by decide +kernel
theorem d_Pol_farPair_7 : decode prog_6_method_6_code 7 = .ok (.iconst 0, 1) := by decide +kernel
theorem d_Pol_farPair_8 : decode prog_6_method_6_code 8 = .ok (.istore 4, 2) := by decide +kernel
theorem d_Pol_farPair_10 : decode prog_6_method_6_code 10 = .ok (.iload 4, 2) := by decide +kernel
theorem d_Pol_farPair_12 : decode prog_6_method_6_code 12 = .ok (.bipush 12, 2) := by decide +kernel
theorem d_Pol_farPair_14 : decode prog_6_method_6_code 14 = .ok (.if_icmp .ge 52, 3) := by decide +kernel
theorem d_Pol_farPair_17 : decode prog_6_method_6_code 17 = .ok (.iload_n 2, 1) := by decide +kernel
theorem d_Pol_farPair_18 : decode prog_6_method_6_code 18 = .ok (.iload 4, 2) := by decide +kernel
theorem d_Pol_farPair_20 : decode prog_6_method_6_code 20 = .ok (.ishr, 1) := by decide +kernel
theorem d_Pol_farPair_21 : decode prog_6_method_6_code 21 = .ok (.iconst 1, 1) := by decide +kernel
theorem d_Pol_farPair_22 : decode prog_6_method_6_code 22 = .ok (.iand, 1) := by decide +kernel
theorem d_Pol_farPair_23 : decode prog_6_method_6_code 23 = .ok (.ifCond .eq 37, 3) := by decide +kernel
theorem d_Pol_farPair_26 : decode prog_6_method_6_code 26 = .ok (.iload_n 2, 1) := by decide +kernel
theorem d_Pol_farPair_27 : decode prog_6_method_6_code 27 = .ok (.aload_n 3, 1) := by decide +kernel
theorem d_Pol_farPair_28 : decode prog_6_method_6_code 28 = .ok (.iload 4, 2) := by decide +kernel
theorem d_Pol_farPair_30 : decode prog_6_method_6_code 30 = .ok (.iaload, 1) := by decide +kernel
theorem d_Pol_farPair_31 : decode prog_6_method_6_code 31 = .ok (.iconst (-1), 1) := by decide +kernel
theorem d_Pol_farPair_32 : decode prog_6_method_6_code 32 = .ok (.ixor, 1) := by decide +kernel
theorem d_Pol_farPair_33 : decode prog_6_method_6_code 33 = .ok (.iand, 1) := by decide +kernel
theorem d_Pol_farPair_34 : decode prog_6_method_6_code 34 = .ok (.iconst 1, 1) := by decide +kernel
theorem d_Pol_farPair_35 : decode prog_6_method_6_code 35 = .ok (.iload 4, 2) := by decide +kernel
theorem d_Pol_farPair_37 : decode prog_6_method_6_code 37 = .ok (.ishl, 1) := by decide +kernel
theorem d_Pol_farPair_38 : decode prog_6_method_6_code 38 = .ok (.iconst (-1), 1) := by decide +kernel
theorem d_Pol_farPair_39 : decode prog_6_method_6_code 39 = .ok (.ixor, 1) := by decide +kernel
theorem d_Pol_farPair_40 : decode prog_6_method_6_code 40 = .ok (.iand, 1) := by decide +kernel
theorem d_Pol_farPair_41 : decode prog_6_method_6_code 41 = .ok (.istore 5, 2) := by decide +kernel
theorem d_Pol_farPair_43 : decode prog_6_method_6_code 43 = .ok (.iload 5, 2) := by decide +kernel
theorem d_Pol_farPair_45 : decode prog_6_method_6_code 45 = .ok (.ifCond .eq 15, 3) := by decide +kernel
theorem d_Pol_farPair_48 : decode prog_6_method_6_code 48 = .ok (.iconst 1, 1) := by decide +kernel
theorem d_Pol_farPair_49 : decode prog_6_method_6_code 49 = .ok (.iload 4, 2) := by decide +kernel
theorem d_Pol_farPair_51 : decode prog_6_method_6_code 51 = .ok (.ishl, 1) := by decide +kernel
theorem d_Pol_farPair_52 : decode prog_6_method_6_code 52 = .ok (.iload 5, 2) := by decide +kernel
theorem d_Pol_farPair_54 : decode prog_6_method_6_code 54 = .ok (.iload 5, 2) := by decide +kernel
theorem d_Pol_farPair_56 : decode prog_6_method_6_code 56 = .ok (.ineg, 1) := by decide +kernel
theorem d_Pol_farPair_57 : decode prog_6_method_6_code 57 = .ok (.iand, 1) := by decide +kernel
theorem d_Pol_farPair_58 : decode prog_6_method_6_code 58 = .ok (.ior, 1) := by decide +kernel
theorem d_Pol_farPair_59 : decode prog_6_method_6_code 59 = .ok (.ireturn, 1) := by decide +kernel
theorem d_Pol_farPair_60 : decode prog_6_method_6_code 60 = .ok (.iinc 4 1, 3) := by decide +kernel
theorem d_Pol_farPair_63 : decode prog_6_method_6_code 63 = .ok (.goto (-53), 3) := by decide +kernel
theorem d_Pol_farPair_66 : decode prog_6_method_6_code 66 = .ok (.iconst 0, 1) := by decide +kernel
theorem d_Pol_farPair_67 : decode prog_6_method_6_code 67 = .ok (.ireturn, 1) := by decide +kernel
abbrev wd_Pol_farPair (cI cJ cG cZ : ClassId) (a0 a0_near a0_nodes a0_factors a0_powers a0_product : Nat) (r0_near : Nat → Nat) (v0_versionSeen : Int32) (w0_near : Nat → Nat → Int32) : va_W := [(a0, .inr (3, [.ref a0_near, .ref a0_nodes, .ref a0_factors, .ref a0_powers, .ref a0_product, .int v0_versionSeen])), (a0_near, .inl (cG, 68, .inr (.inr (.inr (.inr (gO r0_near 68))))))] ++ rowsW r0_near cI 12 68 w0_near
abbrev we_Pol_farPair (cI cJ cG cZ : ClassId) (a0 a0_near a0_nodes a0_factors a0_powers a0_product : Nat) (r0_near : Nat → Nat) (v0_versionSeen : Int32) (w0_near : Nat → Nat → Int32) : va_W := [(a0, .inr (3, [.ref a0_near, .ref a0_nodes, .ref a0_factors, .ref a0_powers, .ref a0_product, .int v0_versionSeen])), (a0_near, .inl (cG, 68, .inr (.inr (.inr (.inr (gO r0_near 68))))))]
abbrev us_Pol_farPair : List Cond := .code y_Pol_farPair prog_6_method_6_code 6 (some .int) :: gtbl
abbrev rm_Pol_farPair : Room := { frames := 0, cells := 0, slots := 0, locals := 0 }
def m_Pol_farPair (F : Nat) (v0_versionSeen : Int32) (w0_near : Nat → Nat → Int32) (p1 : Int32) (p2 : Int32) : Option (Int32) :=
  gC (inb p1 68) (
  gL (fun (k_10 : Int32 → Option (Int32)) (x4_3 : Int32) =>
  if (12 : Int32) ≤ x4_3 then (
    some 0
  ) else (
    if ((p2 >>> (x4_3 &&& 31)) &&& 1) = 0 then (
      gB (x4_3 + 1) (fun x4_6 =>
      k_10 x4_6)
    ) else (
      gC (inb x4_3 12) (
      gB ((p2 &&& ((w0_near p1.toNatClampNeg x4_3.toNatClampNeg) ^^^ (-1))) &&& (((1 : Int32) <<< (x4_3 &&& 31)) ^^^ (-1))) (fun x5_8 =>
      if x5_8 = 0 then (
        gB (x4_3 + 1) (fun x4_10 =>
        k_10 x4_10)
      ) else (
        some (((1 : Int32) <<< (x4_3 &&& 31)) ||| (x5_8 &&& (-x5_8)))
      )))
    )
  )
  ) F 0)
set_option maxHeartbeats 4000000 in
set_option maxRecDepth 100000 in
theorem c_Pol_farPair (l : Launch) (dC : Nat → ClassId) (dI : Nat → Nat → Nat) (cI cJ cG cZ : ClassId) (a0 a0_near a0_nodes a0_factors a0_powers a0_product : Nat) (r0_near : Nat → Nat) (sz : Nat) (F : Nat) (v0_versionSeen : Int32) (w0_near : Nat → Nat → Int32) (p1 : Int32) (p2 : Int32) (ret : Int32) (hm : m_Pol_farPair F v0_versionSeen w0_near p1 p2 = some ret) : Met l y_Pol_farPair us_Pol_farPair rm_Pol_farPair (PcS (dC, dI) (tyL cI cJ cG cZ) [.ref a0, .int p1, .int p2] sz (wd_Pol_farPair cI cJ cG cZ a0 a0_near a0_nodes a0_factors a0_powers a0_product r0_near v0_versionSeen w0_near)) (va_Qi (fun (r : Int32) (_ : Unit) => ret = r) (fun _ t => PoS (dC, dI) (tyL cI cJ cG cZ) (wd_Pol_farPair cI cJ cG cZ a0 a0_near a0_nodes a0_factors a0_powers a0_product r0_near v0_versionSeen w0_near) (va_A (wd_Pol_farPair cI cJ cG cZ a0 a0_near a0_nodes a0_factors a0_powers a0_product r0_near v0_versionSeen w0_near) sz) t) (va_A (wd_Pol_farPair cI cJ cG cZ a0 a0_near a0_nodes a0_factors a0_powers a0_product r0_near v0_versionSeen w0_near) sz)) 0 0 (va_A (wd_Pol_farPair cI cJ cG cZ a0 a0_near a0_nodes a0_factors a0_powers a0_product r0_near v0_versionSeen w0_near) sz) := by
  refine Met.ofW (cc := prog_6_method_6_code) (maxL := 6) (ret := (some .int)) (by decide) rfl ?_
  intro p e s m args below meth c s₁ B hml hv
  obtain ⟨rfl, hsz, hP, hK, hD0, hNw⟩ := hv
  have hx := B.exec
  have hb := B.bytes
  have hr := B.returns
  have htt : ∀ w ∈ gtbl, w.before _ s = true := fun w h => atoms_spec (ws := us_Pol_farPair) B.pre w (List.mem_cons_of_mem _ h)
  have hown : s.vm.findClass R_Pol = some m.cls := findClass_of_methodNamed B.named
  have hlocks := B.notSynchronized
  subst hsz
  have hD := hD0.self (sz := s.heap.size)
  generalize hAe : va_A (wd_Pol_farPair cI cJ cG cZ a0 a0_near a0_nodes a0_factors a0_powers a0_product r0_near v0_versionSeen w0_near) s.heap.size = A at hD ⊢
  have hA : ∀ q : Nat, s.heap.size ≤ q → A q := fun q h => by rw [← hAe]; exact Or.inr h
  clear hAe hD0
  have hS : va_S A s.heap s.heap [] := va_S.rf
  have hl := lv_entry ([.ref a0, .int p1, .int p2]) (n := 6) (Nat.le_of_ble_eq_true rfl)
  rw [lg_entry_eq]
  generalize (lg_sl ([.ref a0, .int p1, .int p2]) ++ List.replicate (6 - (lg_sl ([.ref a0, .int p1, .int p2])).length) Slot.unset).toArray = ls at hl ⊢
  have hl : lv_has ls 6 [(0, .ref a0), (1, .int p1), (2, .int p2)] := hl
  generalize hH : s.heap = H at hP ⊢
  have hS : va_S A s.heap H [] := hH ▸ hS
  generalize hLo : ([] : List Loc) = locs at hS ⊢
  clear hH hLo
  unfold m_Pol_farPair at hm
  refine lv_aload_n hx hb d_Pol_farPair_0 rfl (lv_at hl 0 rfl) ?_
  refine va_get (D := (dC, dI)) (ci := 3) (v := .ref a0_near) (C := R_Pol) (T := T_Pol) (N := 6) hx hb htt hin_Pol hown hK hP 0 rfl rfl 0 (by decide) (htt _ kt_120) (fun _ h9 => h9) rfl d_Pol_farPair_1 ?_
  refine lv_iload_n hx hb d_Pol_farPair_4 rfl (lv_at hl 1 rfl) ?_
  obtain ⟨hi_1, hm⟩ := gC_e hm
  have hj_2 := inb_lt hi_1
  refine gx_ald hx hb hK hP 1 2 rfl rfl (inb_vp hi_1) d_Pol_farPair_5 ?_
  refine lv_astore_n (lv' := [(3, .ref (r0_near p1.toNatClampNeg)), (0, .ref a0), (1, .int p1), (2, .int p2)]) hx hb d_Pol_farPair_6 rfl hl (by decide) rfl (fun ls hl => ?_)
  refine lv_iconst (v := 0) hx hb d_Pol_farPair_7 (by decide) ?_
  refine lv_istore (lv' := [(4, .int 0), (3, .ref (r0_near p1.toNatClampNeg)), (0, .ref a0), (1, .int p1), (2, .int p2)]) hx hb d_Pol_farPair_8 hl (by decide) rfl (fun ls hl => ?_)
  refine gL_e (P := (fun (z_10 : Int32) => ∀ (x4_3 : Int32), x4_3 = z_10 → ∀ (ls : Array Slot) (H : Heap) (locs : List Loc), lv_has ls 6 [(2, .int p2), (3, .ref (r0_near p1.toNatClampNeg)), (4, .int x4_3)] → va_P (dC, dI) vwCl (wd_Pol_farPair cI cJ cG cZ a0 a0_near a0_nodes a0_factors a0_powers a0_product r0_near v0_versionSeen w0_near) H → va_D A (wd_Pol_farPair cI cJ cG cZ a0 a0_near a0_nodes a0_factors a0_powers a0_product r0_near v0_versionSeen w0_near) → va_S A s.heap H locs → W p l e (headSpec us_Pol_farPair rm_Pol_farPair).room s m ([.ref a0, .int p1, .int p2] : List Value).toArray below meth c H locs 0 0 (MQ below (va_Qi (fun (r : Int32) (_ : Unit) => ret = r) (fun _ t => PoS (dC, dI) (tyL cI cJ cG cZ) (wd_Pol_farPair cI cJ cG cZ a0 a0_near a0_nodes a0_factors a0_powers a0_product r0_near v0_versionSeen w0_near) A t) A) ([.ref a0, .int p1, .int p2] : List Value).toArray s 0 0 A) (F0 m 10 ls []))) hm (fun k_10 z_10 ih_10 hm => ?_) _ rfl ls H locs (lv_sub hl [4, 1, 0] rfl) hP hD hS
  intro x4_3 hz ls H locs hl hP hD hS
  subst hz
  refine lv_iload hx hb d_Pol_farPair_10 (lv_at hl 2 rfl) ?_
  refine lv_bipush (v := 12) hx hb d_Pol_farPair_12 (by decide) ?_
  refine lv_icmp_ge (tgt := 66) hx hb d_Pol_farPair_14 (by decide) (fun c_4 => ?_) (fun c_4 => ?_)
  · have hm := ite_t c_4 hm
    refine lv_iconst (v := 0) hx hb d_Pol_farPair_66 (by decide) ?_
    cases hm
    exact W.iret hx hb hr (fun t ht hW => ⟨⟨_, (), rfl, rfl, by rw [ht]; exact hP, va_K.moved hW.alike hK, hD⟩, hS.F ht⟩) hS.2.2 d_Pol_farPair_67
  · have hm := ite_f c_4 hm
    refine lv_iload_n hx hb d_Pol_farPair_17 rfl (lv_at hl 0 rfl) ?_
    refine lv_iload hx hb d_Pol_farPair_18 (lv_at hl 2 rfl) ?_
    refine lv_ishr hx hb d_Pol_farPair_20 ?_
    refine lv_iconst (v := 1) hx hb d_Pol_farPair_21 (by decide) ?_
    refine lv_iand hx hb d_Pol_farPair_22 ?_
    refine lv_if_eq (tgt := 60) hx hb d_Pol_farPair_23 (by decide) (fun c_5 => ?_) (fun c_5 => ?_)
    · have hm := ite_t c_5 hm
      obtain ⟨x4_6, ex4_6⟩ : ∃ y : Int32, y = x4_3 + 1 := ⟨_, rfl⟩
      have hm := gB_at ex4_6 hm
      refine lv_iinc (v := x4_6) (lv' := [(4, .int x4_6), (2, .int p2), (3, .ref (r0_near p1.toNatClampNeg))]) hx hb d_Pol_farPair_60 hl (k := 2) rfl (by rw [ex4_6]; rfl) (by decide) rfl (fun ls hl => ?_)
      refine lv_goto (tgt := 10) hx hb d_Pol_farPair_63 (by decide) ?_
      exact ih_10 _ hm _ rfl ls H locs (lv_sub hl [1, 2, 0] rfl) hP hD hS
    · have hm := ite_f c_5 hm
      refine lv_iload_n hx hb d_Pol_farPair_26 rfl (lv_at hl 0 rfl) ?_
      refine lv_aload_n hx hb d_Pol_farPair_27 rfl (lv_at hl 1 rfl) ?_
      refine lv_iload hx hb d_Pol_farPair_28 (lv_at hl 2 rfl) ?_
      obtain ⟨hi_7, hm⟩ := gC_e hm
      refine va_iald hx hb hK hP (2 + p1.toNatClampNeg) 0 (rows_get rfl hj_2) rfl (inb_vp hi_7) d_Pol_farPair_30 ?_
      refine lv_iconst (v := (-1)) hx hb d_Pol_farPair_31 (by decide) ?_
      refine lv_ixor hx hb d_Pol_farPair_32 ?_
      refine lv_iand hx hb d_Pol_farPair_33 ?_
      refine lv_iconst (v := 1) hx hb d_Pol_farPair_34 (by decide) ?_
      refine lv_iload hx hb d_Pol_farPair_35 (lv_at hl 2 rfl) ?_
      refine lv_ishl hx hb d_Pol_farPair_37 ?_
      refine lv_iconst (v := (-1)) hx hb d_Pol_farPair_38 (by decide) ?_
      refine lv_ixor hx hb d_Pol_farPair_39 ?_
      refine lv_iand hx hb d_Pol_farPair_40 ?_
      refine lv_topi (fun x5_8 ex5_8 => ?_)
      have hm := gB_at ex5_8 hm
      refine lv_istore (lv' := [(5, .int x5_8), (2, .int p2), (3, .ref (r0_near p1.toNatClampNeg)), (4, .int x4_3)]) hx hb d_Pol_farPair_41 hl (by decide) rfl (fun ls hl => ?_)
      refine lv_iload hx hb d_Pol_farPair_43 (lv_at hl 0 rfl) ?_
      refine lv_if_eq (tgt := 60) hx hb d_Pol_farPair_45 (by decide) (fun c_9 => ?_) (fun c_9 => ?_)
      · have hm := ite_t c_9 hm
        obtain ⟨x4_10, ex4_10⟩ : ∃ y : Int32, y = x4_3 + 1 := ⟨_, rfl⟩
        have hm := gB_at ex4_10 hm
        refine lv_iinc (v := x4_10) (lv' := [(4, .int x4_10), (5, .int x5_8), (2, .int p2), (3, .ref (r0_near p1.toNatClampNeg))]) hx hb d_Pol_farPair_60 hl (k := 3) rfl (by rw [ex4_10]; rfl) (by decide) rfl (fun ls hl => ?_)
        refine lv_goto (tgt := 10) hx hb d_Pol_farPair_63 (by decide) ?_
        exact ih_10 _ hm _ rfl ls H locs (lv_sub hl [2, 3, 0] rfl) hP hD hS
      · have hm := ite_f c_9 hm
        refine lv_iconst (v := 1) hx hb d_Pol_farPair_48 (by decide) ?_
        refine lv_iload hx hb d_Pol_farPair_49 (lv_at hl 3 rfl) ?_
        refine lv_ishl hx hb d_Pol_farPair_51 ?_
        refine lv_iload hx hb d_Pol_farPair_52 (lv_at hl 0 rfl) ?_
        refine lv_iload hx hb d_Pol_farPair_54 (lv_at hl 0 rfl) ?_
        refine lv_ineg hx hb d_Pol_farPair_56 ?_
        refine lv_iand hx hb d_Pol_farPair_57 ?_
        refine lv_ior hx hb d_Pol_farPair_58 ?_
        cases hm
        exact W.iret hx hb hr (fun t ht hW => ⟨⟨_, (), rfl, rfl, by rw [ht]; exact hP, va_K.moved hW.alike hK, hD⟩, hS.F ht⟩) hS.2.2 d_Pol_farPair_59
theorem d_Pol_takeFactors_0 : decode prog_6_method_5_code 0 = .ok (.iconst 1, 1) := by decide +kernel
theorem d_Pol_takeFactors_1 : decode prog_6_method_5_code 1 = .ok (.istore_n 2, 1) := by decide +kernel
theorem d_Pol_takeFactors_2 : decode prog_6_method_5_code 2 = .ok (.iconst 0, 1) := by decide +kernel
theorem d_Pol_takeFactors_3 : decode prog_6_method_5_code 3 = .ok (.istore_n 3, 1) := by decide +kernel
theorem d_Pol_takeFactors_4 : decode prog_6_method_5_code 4 = .ok (.iload_n 3, 1) := by decide +kernel
theorem d_Pol_takeFactors_5 : decode prog_6_method_5_code 5 = .ok (.bipush 12, 2) := by decide +kernel
theorem d_Pol_takeFactors_7 : decode prog_6_method_5_code 7 = .ok (.if_icmp .ge 122, 3) := by decide +kernel
theorem d_Pol_takeFactors_10 : decode prog_6_method_5_code 10 = .ok (.iload_n 2, 1) := by decide +kernel
theorem d_Pol_takeFactors_11 : decode prog_6_method_5_code 11 = .ok (.ifCond .eq 118, 3) := by decide +kernel
theorem d_Pol_takeFactors_14 : decode prog_6_method_5_code 14 = .ok (.iconst 0, 1) := by decide +kernel
theorem d_Pol_takeFactors_15 : decode prog_6_method_5_code 15 = .ok (.istore_n 2, 1) := by decide +kernel
theorem d_Pol_takeFactors_16 : decode prog_6_method_5_code 16 = .ok (.iconst 0, 1) := by decide +kernel
theorem d_Pol_takeFactors_17 : decode prog_6_method_5_code 17 = .ok (.istore 4, 2) := by decide +kernel
theorem d_Pol_takeFactors_19 : decode prog_6_method_5_code 19 = .ok (.iload 4, 2) := by decide +kernel
theorem d_Pol_takeFactors_21 : decode prog_6_method_5_code 21 = .ok (.bipush 12, 2) := by decide +kernel
theorem d_Pol_takeFactors_23 : decode prog_6_method_5_code 23 = .ok (.if_icmp .ge 100, 3) := by decide +kernel
theorem d_Pol_takeFactors_26 : decode prog_6_method_5_code 26 = .ok (.aload_n 0, 1) := by decide +kernel
theorem d_Pol_takeFactors_27 : decode prog_6_method_5_code 27 = .ok (.getfield 16, 3) := by decide +kernel
theorem d_Pol_takeFactors_30 : decode prog_6_method_5_code 30 = .ok (.iload_n 1, 1) := by decide +kernel
theorem d_Pol_takeFactors_31 : decode prog_6_method_5_code 31 = .ok (.iaload, 1) := by decide +kernel
theorem d_Pol_takeFactors_32 : decode prog_6_method_5_code 32 = .ok (.iload 4, 2) := by decide +kernel
theorem d_Pol_takeFactors_34 : decode prog_6_method_5_code 34 = .ok (.ishr, 1) := by decide +kernel
theorem d_Pol_takeFactors_35 : decode prog_6_method_5_code 35 = .ok (.iconst 1, 1) := by decide +kernel
theorem d_Pol_takeFactors_36 : decode prog_6_method_5_code 36 = .ok (.iand, 1) := by decide +kernel
theorem d_Pol_takeFactors_37 : decode prog_6_method_5_code 37 = .ok (.ifCond .eq 80, 3) := by decide +kernel
theorem d_Pol_takeFactors_40 : decode prog_6_method_5_code 40 = .ok (.aload_n 0, 1) := by decide +kernel
theorem d_Pol_takeFactors_41 : decode prog_6_method_5_code 41 = .ok (.iload_n 1, 1) := by decide +kernel
theorem d_Pol_takeFactors_42 : decode prog_6_method_5_code 42 = .ok (.aload_n 0, 1) := by decide +kernel
theorem d_Pol_takeFactors_43 : decode prog_6_method_5_code 43 = .ok (.getfield 13, 3) := by decide +kernel
theorem d_Pol_takeFactors_46 : decode prog_6_method_5_code 46 = .ok (.iload_n 1, 1) := by decide +kernel
theorem d_Pol_takeFactors_47 : decode prog_6_method_5_code 47 = .ok (.aaload, 1) := by decide +kernel
theorem d_Pol_takeFactors_48 : decode prog_6_method_5_code 48 = .ok (.iload 4, 2) := by decide +kernel
theorem d_Pol_takeFactors_50 : decode prog_6_method_5_code 50 = .ok (.iaload, 1) := by decide +kernel
theorem d_Pol_takeFactors_51 : decode prog_6_method_5_code 51 = .ok (.aload_n 0, 1) := by decide +kernel
theorem d_Pol_takeFactors_52 : decode prog_6_method_5_code 52 = .ok (.getfield 16, 3) := by decide +kernel
theorem d_Pol_takeFactors_55 : decode prog_6_method_5_code 55 = .ok (.iload_n 1, 1) := by decide +kernel
theorem d_Pol_takeFactors_56 : decode prog_6_method_5_code 56 = .ok (.iaload, 1) := by decide +kernel
theorem d_Pol_takeFactors_57 : decode prog_6_method_5_code 57 = .ok (.iand, 1) := by decide +kernel
theorem d_Pol_takeFactors_58 : decode prog_6_method_5_code 58 = .ok (.invokevirtual 72, 3) := by decide +kernel
theorem d_Pol_takeFactors_61 : decode prog_6_method_5_code 61 = .ok (.ifCond .ne 56, 3) := by decide +kernel
theorem d_Pol_takeFactors_64 : decode prog_6_method_5_code 64 = .ok (.aload_n 0, 1) := by decide +kernel
theorem d_Pol_takeFactors_65 : decode prog_6_method_5_code 65 = .ok (.getfield 13, 3) := by decide +kernel
theorem d_Pol_takeFactors_68 : decode prog_6_method_5_code 68 = .ok (.iload_n 1, 1) := by decide +kernel
theorem d_Pol_takeFactors_69 : decode prog_6_method_5_code 69 = .ok (.aaload, 1) := by decide +kernel
theorem d_Pol_takeFactors_70 : decode prog_6_method_5_code 70 = .ok (.iload 4, 2) := by decide +kernel
theorem d_Pol_takeFactors_72 : decode prog_6_method_5_code 72 = .ok (.iaload, 1) := by decide +kernel
theorem d_Pol_takeFactors_73 : decode prog_6_method_5_code 73 = .ok (.aload_n 0, 1) := by decide +kernel
theorem d_Pol_takeFactors_74 : decode prog_6_method_5_code 74 = .ok (.getfield 16, 3) := by decide +kernel
theorem d_Pol_takeFactors_77 : decode prog_6_method_5_code 77 = .ok (.iload_n 1, 1) := by decide +kernel
theorem d_Pol_takeFactors_78 : decode prog_6_method_5_code 78 = .ok (.iaload, 1) := by decide +kernel
theorem d_Pol_takeFactors_79 : decode prog_6_method_5_code 79 = .ok (.iand, 1) := by decide +kernel
theorem d_Pol_takeFactors_80 : decode prog_6_method_5_code 80 = .ok (.invokestatic 84, 3) := by decide +kernel
theorem d_Pol_takeFactors_83 : decode prog_6_method_5_code 83 = .ok (.istore 5, 2) := by decide +kernel
theorem d_Pol_takeFactors_85 : decode prog_6_method_5_code 85 = .ok (.aload_n 0, 1) := by decide +kernel
theorem d_Pol_takeFactors_86 : decode prog_6_method_5_code 86 = .ok (.getfield 20, 3) := by decide +kernel
theorem d_Pol_takeFactors_89 : decode prog_6_method_5_code 89 = .ok (.iload_n 1, 1) := by decide +kernel
theorem d_Pol_takeFactors_90 : decode prog_6_method_5_code 90 = .ok (.dup2, 1) := by decide +kernel
theorem d_Pol_takeFactors_91 : decode prog_6_method_5_code 91 = .ok (.laload, 1) := by decide +kernel
theorem d_Pol_takeFactors_92 : decode prog_6_method_5_code 92 = .ok (.lconst 1, 1) := by decide +kernel
theorem d_Pol_takeFactors_93 : decode prog_6_method_5_code 93 = .ok (.iload 5, 2) := by decide +kernel
theorem d_Pol_takeFactors_95 : decode prog_6_method_5_code 95 = .ok (.iconst 4, 1) := by decide +kernel
theorem d_Pol_takeFactors_96 : decode prog_6_method_5_code 96 = .ok (.imul, 1) := by decide +kernel
theorem d_Pol_takeFactors_97 : decode prog_6_method_5_code 97 = .ok (.lshl, 1) := by decide +kernel
theorem d_Pol_takeFactors_98 : decode prog_6_method_5_code 98 = .ok (.ladd, 1) := by decide +kernel
theorem d_Pol_takeFactors_99 : decode prog_6_method_5_code 99 = .ok (.lastore, 1) := by decide +kernel
theorem d_Pol_takeFactors_100 : decode prog_6_method_5_code 100 = .ok (.aload_n 0, 1) := by decide +kernel
theorem d_Pol_takeFactors_101 : decode prog_6_method_5_code 101 = .ok (.getfield 16, 3) := by decide +kernel
theorem d_Pol_takeFactors_104 : decode prog_6_method_5_code 104 = .ok (.iload_n 1, 1) := by decide +kernel
theorem d_Pol_takeFactors_105 : decode prog_6_method_5_code 105 = .ok (.dup2, 1) := by decide +kernel
theorem d_Pol_takeFactors_106 : decode prog_6_method_5_code 106 = .ok (.iaload, 1) := by decide +kernel
theorem d_Pol_takeFactors_107 : decode prog_6_method_5_code 107 = .ok (.iconst 1, 1) := by decide +kernel
theorem d_Pol_takeFactors_108 : decode prog_6_method_5_code 108 = .ok (.iload 4, 2) := by decide +kernel
theorem d_Pol_takeFactors_110 : decode prog_6_method_5_code 110 = .ok (.ishl, 1) := by decide +kernel
theorem d_Pol_takeFactors_111 : decode prog_6_method_5_code 111 = .ok (.iconst (-1), 1) := by decide +kernel
theorem d_Pol_takeFactors_112 : decode prog_6_method_5_code 112 = .ok (.ixor, 1) := by decide +kernel
theorem d_Pol_takeFactors_113 : decode prog_6_method_5_code 113 = .ok (.iand, 1) := by decide +kernel
theorem d_Pol_takeFactors_114 : decode prog_6_method_5_code 114 = .ok (.iastore, 1) := by decide +kernel
theorem d_Pol_takeFactors_115 : decode prog_6_method_5_code 115 = .ok (.iconst 1, 1) := by decide +kernel
theorem d_Pol_takeFactors_116 : decode prog_6_method_5_code 116 = .ok (.istore_n 2, 1) := by decide +kernel
theorem d_Pol_takeFactors_117 : decode prog_6_method_5_code 117 = .ok (.iinc 4 1, 3) := by decide +kernel
theorem d_Pol_takeFactors_120 : decode prog_6_method_5_code 120 = .ok (.goto (-101), 3) := by decide +kernel
theorem d_Pol_takeFactors_123 : decode prog_6_method_5_code 123 = .ok (.iinc 3 1, 3) := by decide +kernel
theorem d_Pol_takeFactors_126 : decode prog_6_method_5_code 126 = .ok (.goto (-122), 3) := by decide +kernel
theorem d_Pol_takeFactors_129 : decode prog_6_method_5_code 129 = .ok (.return_, 1) := by decide +kernel
abbrev wd_Pol_takeFactors (cI cJ cG cZ : ClassId) (a0 a0_near a0_nodes a0_factors a0_powers a0_product : Nat) (r0_near : Nat → Nat) (v0_versionSeen : Int32) (w0_nodes : Nat → Int32) (w0_factors : Nat → Int64) (w0_near : Nat → Nat → Int32) : va_W := [(a0, .inr (3, [.ref a0_near, .ref a0_nodes, .ref a0_factors, .ref a0_powers, .ref a0_product, .int v0_versionSeen])), (a0_near, .inl (cG, 68, .inr (.inr (.inr (.inr (gO r0_near 68)))))), (a0_nodes, .inl (cI, 68, .inl w0_nodes)), (a0_factors, .inl (cJ, 68, .inr (.inl w0_factors)))] ++ rowsW r0_near cI 12 68 w0_near
abbrev we_Pol_takeFactors (cI cJ cG cZ : ClassId) (a0 a0_near a0_nodes a0_factors a0_powers a0_product : Nat) (r0_near : Nat → Nat) (v0_versionSeen : Int32) (w0_nodes : Nat → Int32) (w0_factors : Nat → Int64) (w0_near : Nat → Nat → Int32) : va_W := [(a0, .inr (3, [.ref a0_near, .ref a0_nodes, .ref a0_factors, .ref a0_powers, .ref a0_product, .int v0_versionSeen])), (a0_near, .inl (cG, 68, .inr (.inr (.inr (.inr (gO r0_near 68)))))), (a0_nodes, .inl (cI, 68, .inl w0_nodes)), (a0_factors, .inl (cJ, 68, .inr (.inl w0_factors)))]
abbrev us_Pol_takeFactors : List Cond := .code y_Pol_takeFactors prog_6_method_5_code 6 none :: gtbl
abbrev rm_Pol_takeFactors : Room := { frames := 1, cells := 0, slots := 0, locals := 25 }
def m_Pol_takeFactors (F : Nat) (v0_versionSeen : Int32) (w0_nodes : Nat → Int32) (w0_factors : Nat → Int64) (w0_near : Nat → Nat → Int32) (p1 : Int32) : Option ((Nat → Int32) × (Nat → Int64)) :=
  gL (fun (k_4 : (Int32 × Int32 × (Nat → Int32) × (Nat → Int64)) → Option ((Nat → Int32) × (Nat → Int64))) (z_4 : Int32 × Int32 × (Nat → Int32) × (Nat → Int64)) => match z_4 with
  | (x2_1, x3_2, w0_nodes_3, w0_factors_4) =>
  if (12 : Int32) ≤ x3_2 then (
    some (w0_nodes_3, w0_factors_4)
  ) else (
    if x2_1 = 0 then (
      some (w0_nodes_3, w0_factors_4)
    ) else (
      gL (fun (k_19 : (Int32 × Int32 × (Nat → Int32) × (Nat → Int64)) → Option ((Nat → Int32) × (Nat → Int64))) (z_19 : Int32 × Int32 × (Nat → Int32) × (Nat → Int64)) => match z_19 with
      | (x2_7, x4_8, w0_nodes_9, w0_factors_10) =>
      if (12 : Int32) ≤ x4_8 then (
        gB (x3_2 + 1) (fun x3_12 =>
        k_4 (x2_7, x3_12, w0_nodes_9, w0_factors_10))
      ) else (
        gC (inb p1 68) (
        if (((w0_nodes_9 p1.toNatClampNeg) >>> (x4_8 &&& 31)) &&& 1) = 0 then (
          gB (x4_8 + 1) (fun x4_15 =>
          k_19 (x2_7, x4_15, w0_nodes_9, w0_factors_10))
        ) else (
          gC (inb p1 68) (
          gC (inb x4_8 12) (
          gC (inb p1 68) (
          gM (m_Pol_farPair F v0_versionSeen w0_near p1 ((w0_near p1.toNatClampNeg x4_8.toNatClampNeg) &&& (w0_nodes_9 p1.toNatClampNeg))) (fun q_20 =>
          if q_20 = 0 then (
            gC (inb p1 68) (
            gC (inb x4_8 12) (
            gC (inb p1 68) (
            gB (bitc ((w0_near p1.toNatClampNeg x4_8.toNatClampNeg) &&& (w0_nodes_9 p1.toNatClampNeg))) (fun x5_29 =>
            gC (inb p1 68) (
            gC (inb p1 68) (
            gC (inb p1 68) (
            gC (inb p1 68) (
            gB (x4_8 + 1) (fun x4_34 =>
            k_19 (1, x4_34, upd w0_nodes_9 p1.toNatClampNeg ((w0_nodes_9 p1.toNatClampNeg) &&& (((1 : Int32) <<< (x4_8 &&& 31)) ^^^ (-1))), vp_updL w0_factors_10 p1.toNatClampNeg ((w0_factors_10 p1.toNatClampNeg) + ((1 : Int64) <<< ((x5_29 * 4).toInt64 &&& 63)))))))))))))
          ) else (
            gB (x4_8 + 1) (fun x4_24 =>
            k_19 (x2_7, x4_24, w0_nodes_9, w0_factors_10))
          )))))
        ))
      )
      ) F (0, 0, w0_nodes_3, w0_factors_4)
    )
  )
  ) F (1, 0, w0_nodes, w0_factors)
set_option maxHeartbeats 4000000 in
set_option maxRecDepth 100000 in
theorem c_Pol_takeFactors (l : Launch) (dC : Nat → ClassId) (dI : Nat → Nat → Nat) (cI cJ cG cZ : ClassId) (a0 a0_near a0_nodes a0_factors a0_powers a0_product : Nat) (r0_near : Nat → Nat) (sz : Nat) (F : Nat) (v0_versionSeen : Int32) (w0_nodes : Nat → Int32) (w0_factors : Nat → Int64) (w0_near : Nat → Nat → Int32) (p1 : Int32) (o_w0_nodes : Nat → Int32) (o_w0_factors : Nat → Int64) (hm : m_Pol_takeFactors F v0_versionSeen w0_nodes w0_factors w0_near p1 = some (o_w0_nodes, o_w0_factors)) : Met l y_Pol_takeFactors us_Pol_takeFactors rm_Pol_takeFactors (PcS (dC, dI) (tyL cI cJ cG cZ) [.ref a0, .int p1] sz (wd_Pol_takeFactors cI cJ cG cZ a0 a0_near a0_nodes a0_factors a0_powers a0_product r0_near v0_versionSeen w0_nodes w0_factors w0_near)) (va_Qv (fun (_ : Unit) => True) (fun _ t => PoS (dC, dI) (tyL cI cJ cG cZ) (wd_Pol_takeFactors cI cJ cG cZ a0 a0_near a0_nodes a0_factors a0_powers a0_product r0_near v0_versionSeen o_w0_nodes o_w0_factors w0_near) (va_A (wd_Pol_takeFactors cI cJ cG cZ a0 a0_near a0_nodes a0_factors a0_powers a0_product r0_near v0_versionSeen w0_nodes w0_factors w0_near) sz) t) (va_A (wd_Pol_takeFactors cI cJ cG cZ a0 a0_near a0_nodes a0_factors a0_powers a0_product r0_near v0_versionSeen w0_nodes w0_factors w0_near) sz)) 0 0 (va_A (wd_Pol_takeFactors cI cJ cG cZ a0 a0_near a0_nodes a0_factors a0_powers a0_product r0_near v0_versionSeen w0_nodes w0_factors w0_near) sz) := by
  refine Met.ofW (cc := prog_6_method_5_code) (maxL := 6) (ret := none) (by decide) rfl ?_
  intro p e s m args below meth c s₁ B hml hv
  obtain ⟨rfl, hsz, hP, hK, hD0, hNw⟩ := hv
  have hx := B.exec
  have hb := B.bytes
  have hr := B.returns
  have htt : ∀ w ∈ gtbl, w.before _ s = true := fun w h => atoms_spec (ws := us_Pol_takeFactors) B.pre w (List.mem_cons_of_mem _ h)
  have hown : s.vm.findClass R_Pol = some m.cls := findClass_of_methodNamed B.named
  have hlocks := B.notSynchronized
  subst hsz
  have hD := hD0.self (sz := s.heap.size)
  generalize hAe : va_A (wd_Pol_takeFactors cI cJ cG cZ a0 a0_near a0_nodes a0_factors a0_powers a0_product r0_near v0_versionSeen w0_nodes w0_factors w0_near) s.heap.size = A at hD ⊢
  have hA : ∀ q : Nat, s.heap.size ≤ q → A q := fun q h => by rw [← hAe]; exact Or.inr h
  clear hAe hD0
  have hS : va_S A s.heap s.heap [] := va_S.rf
  have hl := lv_entry ([.ref a0, .int p1]) (n := 6) (Nat.le_of_ble_eq_true rfl)
  rw [lg_entry_eq]
  generalize (lg_sl ([.ref a0, .int p1]) ++ List.replicate (6 - (lg_sl ([.ref a0, .int p1])).length) Slot.unset).toArray = ls at hl ⊢
  have hl : lv_has ls 6 [(0, .ref a0), (1, .int p1)] := hl
  generalize hH : s.heap = H at hP ⊢
  have hS : va_S A s.heap H [] := hH ▸ hS
  generalize hLo : ([] : List Loc) = locs at hS ⊢
  clear hH hLo
  unfold m_Pol_takeFactors at hm
  refine lv_iconst (v := 1) hx hb d_Pol_takeFactors_0 (by decide) ?_
  refine lv_istore_n (lv' := [(2, .int 1), (0, .ref a0), (1, .int p1)]) hx hb d_Pol_takeFactors_1 rfl hl (by decide) rfl (fun ls hl => ?_)
  refine lv_iconst (v := 0) hx hb d_Pol_takeFactors_2 (by decide) ?_
  refine lv_istore_n (lv' := [(3, .int 0), (2, .int 1), (0, .ref a0), (1, .int p1)]) hx hb d_Pol_takeFactors_3 rfl hl (by decide) rfl (fun ls hl => ?_)
  refine gL_e (P := (fun (z_4 : Int32 × Int32 × (Nat → Int32) × (Nat → Int64)) => ∀ (x2_1 : Int32), ∀ (x3_2 : Int32), ∀ (w0_nodes_3 : Nat → Int32), ∀ (w0_factors_4 : Nat → Int64), z_4 = (x2_1, x3_2, w0_nodes_3, w0_factors_4) → ∀ (ls : Array Slot) (H : Heap) (locs : List Loc), lv_has ls 6 [(0, .ref a0), (1, .int p1), (2, .int x2_1), (3, .int x3_2)] → va_P (dC, dI) vwCl (wd_Pol_takeFactors cI cJ cG cZ a0 a0_near a0_nodes a0_factors a0_powers a0_product r0_near v0_versionSeen w0_nodes_3 w0_factors_4 w0_near) H → va_D A (wd_Pol_takeFactors cI cJ cG cZ a0 a0_near a0_nodes a0_factors a0_powers a0_product r0_near v0_versionSeen w0_nodes_3 w0_factors_4 w0_near) → va_S A s.heap H locs → W p l e (headSpec us_Pol_takeFactors rm_Pol_takeFactors).room s m ([.ref a0, .int p1] : List Value).toArray below meth c H locs 0 0 (MQ below (va_Qv (fun (_ : Unit) => True) (fun _ t => PoS (dC, dI) (tyL cI cJ cG cZ) (wd_Pol_takeFactors cI cJ cG cZ a0 a0_near a0_nodes a0_factors a0_powers a0_product r0_near v0_versionSeen o_w0_nodes o_w0_factors w0_near) A t) A) ([.ref a0, .int p1] : List Value).toArray s 0 0 A) (F0 m 4 ls []))) hm (fun k_4 z_4 ih_4 hm => ?_) _ _ _ _ rfl ls H locs (lv_sub hl [2, 3, 1, 0] rfl) hP hD hS
  intro x2_1 x3_2 w0_nodes_3 w0_factors_4 hz ls H locs hl hP hD hS
  subst hz
  dsimp only at hm
  refine lv_iload_n hx hb d_Pol_takeFactors_4 rfl (lv_at hl 3 rfl) ?_
  refine lv_bipush (v := 12) hx hb d_Pol_takeFactors_5 (by decide) ?_
  refine lv_icmp_ge (tgt := 129) hx hb d_Pol_takeFactors_7 (by decide) (fun c_5 => ?_) (fun c_5 => ?_)
  · have hm := ite_t c_5 hm
    cases hm
    exact W.vret hx hb hr (fun t ht hW => ⟨⟨(), rfl, trivial, by rw [ht]; exact hP, va_K.moved hW.alike hK, hD⟩, hS.F ht⟩) hS.2.2 d_Pol_takeFactors_129
  · have hm := ite_f c_5 hm
    refine lv_iload_n hx hb d_Pol_takeFactors_10 rfl (lv_at hl 2 rfl) ?_
    refine lv_if_eq (tgt := 129) hx hb d_Pol_takeFactors_11 (by decide) (fun c_6 => ?_) (fun c_6 => ?_)
    · have hm := ite_t c_6 hm
      cases hm
      exact W.vret hx hb hr (fun t ht hW => ⟨⟨(), rfl, trivial, by rw [ht]; exact hP, va_K.moved hW.alike hK, hD⟩, hS.F ht⟩) hS.2.2 d_Pol_takeFactors_129
    · have hm := ite_f c_6 hm
      refine lv_iconst (v := 0) hx hb d_Pol_takeFactors_14 (by decide) ?_
      refine lv_istore_n (lv' := [(2, .int 0), (0, .ref a0), (1, .int p1), (3, .int x3_2)]) hx hb d_Pol_takeFactors_15 rfl hl (by decide) rfl (fun ls hl => ?_)
      refine lv_iconst (v := 0) hx hb d_Pol_takeFactors_16 (by decide) ?_
      refine lv_istore (lv' := [(4, .int 0), (2, .int 0), (0, .ref a0), (1, .int p1), (3, .int x3_2)]) hx hb d_Pol_takeFactors_17 hl (by decide) rfl (fun ls hl => ?_)
      refine gL_e (P := (fun (z_19 : Int32 × Int32 × (Nat → Int32) × (Nat → Int64)) => ∀ (x2_7 : Int32), ∀ (x4_8 : Int32), ∀ (w0_nodes_9 : Nat → Int32), ∀ (w0_factors_10 : Nat → Int64), z_19 = (x2_7, x4_8, w0_nodes_9, w0_factors_10) → ∀ (ls : Array Slot) (H : Heap) (locs : List Loc), lv_has ls 6 [(0, .ref a0), (1, .int p1), (2, .int x2_7), (3, .int x3_2), (4, .int x4_8)] → va_P (dC, dI) vwCl (wd_Pol_takeFactors cI cJ cG cZ a0 a0_near a0_nodes a0_factors a0_powers a0_product r0_near v0_versionSeen w0_nodes_9 w0_factors_10 w0_near) H → va_D A (wd_Pol_takeFactors cI cJ cG cZ a0 a0_near a0_nodes a0_factors a0_powers a0_product r0_near v0_versionSeen w0_nodes_9 w0_factors_10 w0_near) → va_S A s.heap H locs → W p l e (headSpec us_Pol_takeFactors rm_Pol_takeFactors).room s m ([.ref a0, .int p1] : List Value).toArray below meth c H locs 0 0 (MQ below (va_Qv (fun (_ : Unit) => True) (fun _ t => PoS (dC, dI) (tyL cI cJ cG cZ) (wd_Pol_takeFactors cI cJ cG cZ a0 a0_near a0_nodes a0_factors a0_powers a0_product r0_near v0_versionSeen o_w0_nodes o_w0_factors w0_near) A t) A) ([.ref a0, .int p1] : List Value).toArray s 0 0 A) (F0 m 19 ls []))) hm (fun k_19 z_19 ih_19 hm => ?_) _ _ _ _ rfl ls H locs (lv_sub hl [2, 3, 1, 4, 0] rfl) hP hD hS
      intro x2_7 x4_8 w0_nodes_9 w0_factors_10 hz ls H locs hl hP hD hS
      subst hz
      dsimp only at hm
      refine lv_iload hx hb d_Pol_takeFactors_19 (lv_at hl 4 rfl) ?_
      refine lv_bipush (v := 12) hx hb d_Pol_takeFactors_21 (by decide) ?_
      refine lv_icmp_ge (tgt := 123) hx hb d_Pol_takeFactors_23 (by decide) (fun c_11 => ?_) (fun c_11 => ?_)
      · have hm := ite_t c_11 hm
        obtain ⟨x3_12, ex3_12⟩ : ∃ y : Int32, y = x3_2 + 1 := ⟨_, rfl⟩
        have hm := gB_at ex3_12 hm
        refine lv_iinc (v := x3_12) (lv' := [(3, .int x3_12), (0, .ref a0), (1, .int p1), (2, .int x2_7), (4, .int x4_8)]) hx hb d_Pol_takeFactors_123 hl (k := 3) rfl (by rw [ex3_12]; rfl) (by decide) rfl (fun ls hl => ?_)
        refine lv_goto (tgt := 4) hx hb d_Pol_takeFactors_126 (by decide) ?_
        exact ih_4 _ hm _ _ _ _ rfl ls H locs (lv_sub hl [1, 2, 3, 0] rfl) hP hD hS
      · have hm := ite_f c_11 hm
        refine lv_aload_n hx hb d_Pol_takeFactors_26 rfl (lv_at hl 0 rfl) ?_
        refine va_get (D := (dC, dI)) (ci := 3) (v := .ref a0_nodes) (C := R_Pol) (T := T_Pol) (N := 6) hx hb htt hin_Pol hown hK hP 0 rfl rfl 1 (by decide) (htt _ kt_121) (fun _ h9 => h9) rfl d_Pol_takeFactors_27 ?_
        refine lv_iload_n hx hb d_Pol_takeFactors_30 rfl (lv_at hl 1 rfl) ?_
        obtain ⟨hi_13, hm⟩ := gC_e hm
        refine va_iald hx hb hK hP 2 0 rfl rfl (inb_vp hi_13) d_Pol_takeFactors_31 ?_
        refine lv_iload hx hb d_Pol_takeFactors_32 (lv_at hl 4 rfl) ?_
        refine lv_ishr hx hb d_Pol_takeFactors_34 ?_
        refine lv_iconst (v := 1) hx hb d_Pol_takeFactors_35 (by decide) ?_
        refine lv_iand hx hb d_Pol_takeFactors_36 ?_
        refine lv_if_eq (tgt := 117) hx hb d_Pol_takeFactors_37 (by decide) (fun c_14 => ?_) (fun c_14 => ?_)
        · have hm := ite_t c_14 hm
          obtain ⟨x4_15, ex4_15⟩ : ∃ y : Int32, y = x4_8 + 1 := ⟨_, rfl⟩
          have hm := gB_at ex4_15 hm
          refine lv_iinc (v := x4_15) (lv' := [(4, .int x4_15), (0, .ref a0), (1, .int p1), (2, .int x2_7), (3, .int x3_2)]) hx hb d_Pol_takeFactors_117 hl (k := 4) rfl (by rw [ex4_15]; rfl) (by decide) rfl (fun ls hl => ?_)
          refine lv_goto (tgt := 19) hx hb d_Pol_takeFactors_120 (by decide) ?_
          exact ih_19 _ hm _ _ _ _ rfl ls H locs (lv_sub hl [1, 2, 3, 4, 0] rfl) hP hD hS
        · have hm := ite_f c_14 hm
          refine lv_aload_n hx hb d_Pol_takeFactors_40 rfl (lv_at hl 0 rfl) ?_
          refine lv_iload_n hx hb d_Pol_takeFactors_41 rfl (lv_at hl 1 rfl) ?_
          refine lv_aload_n hx hb d_Pol_takeFactors_42 rfl (lv_at hl 0 rfl) ?_
          refine va_get (D := (dC, dI)) (ci := 3) (v := .ref a0_near) (C := R_Pol) (T := T_Pol) (N := 6) hx hb htt hin_Pol hown hK hP 0 rfl rfl 0 (by decide) (htt _ kt_120) (fun _ h9 => h9) rfl d_Pol_takeFactors_43 ?_
          refine lv_iload_n hx hb d_Pol_takeFactors_46 rfl (lv_at hl 1 rfl) ?_
          obtain ⟨hi_16, hm⟩ := gC_e hm
          have hj_17 := inb_lt hi_16
          refine gx_ald hx hb hK hP 1 2 rfl rfl (inb_vp hi_16) d_Pol_takeFactors_47 ?_
          refine lv_iload hx hb d_Pol_takeFactors_48 (lv_at hl 4 rfl) ?_
          obtain ⟨hi_18, hm⟩ := gC_e hm
          refine va_iald hx hb hK hP (4 + p1.toNatClampNeg) 0 (rows_get rfl hj_17) rfl (inb_vp hi_18) d_Pol_takeFactors_50 ?_
          refine lv_aload_n hx hb d_Pol_takeFactors_51 rfl (lv_at hl 0 rfl) ?_
          refine va_get (D := (dC, dI)) (ci := 3) (v := .ref a0_nodes) (C := R_Pol) (T := T_Pol) (N := 6) hx hb htt hin_Pol hown hK hP 0 rfl rfl 1 (by decide) (htt _ kt_121) (fun _ h9 => h9) rfl d_Pol_takeFactors_52 ?_
          refine lv_iload_n hx hb d_Pol_takeFactors_55 rfl (lv_at hl 1 rfl) ?_
          obtain ⟨hi_19, hm⟩ := gC_e hm
          refine va_iald hx hb hK hP 2 0 rfl rfl (inb_vp hi_19) d_Pol_takeFactors_56 ?_
          refine lv_iand hx hb d_Pol_takeFactors_57 ?_
          obtain ⟨q_20, hc_21, hm⟩ := gM_e hm
          have hPc : va_P (dC, dI) vwCl (wd_Pol_farPair cI cJ cG cZ a0 a0_near a0_nodes a0_factors a0_powers a0_product r0_near v0_versionSeen w0_near) H := hP.part [0, 1] rfl
          have hDc : va_D A (wd_Pol_farPair cI cJ cG cZ a0 a0_near a0_nodes a0_factors a0_powers a0_product r0_near v0_versionSeen w0_near) := hD.part [0, 1] (by decide) rfl
          have hFc : ∀ q, va_A (wd_Pol_farPair cI cJ cG cZ a0 a0_near a0_nodes a0_factors a0_powers a0_product r0_near v0_versionSeen w0_near) H.size q → A q := va_freeP hD hS hA [0, 1] rfl
          refine va_calli (va_runV (As := [.int p1, .int ((w0_near p1.toNatClampNeg x4_8.toNatClampNeg) &&& (w0_nodes_9 p1.toNatClampNeg))]) (rest := []) ⟨hx, hb, hml, hown, htt⟩ (c_Pol_farPair l dC dI cI cJ cG cZ a0 a0_near a0_nodes a0_factors a0_powers a0_product r0_near H.size F v0_versionSeen w0_near p1 ((w0_near p1.toNatClampNeg x4_8.toNatClampNeg) &&& (w0_nodes_9 p1.toNatClampNeg)) q_20 hc_21) (cwV 2 htt (gdV kt_408 kt_410 kp_16 kt_4 kt_411) rfl rfl rfl (by decide +kernel) ⟨(Nat.le_of_ble_eq_true rfl), (Nat.le_of_ble_eq_true rfl)⟩) ⟨PcS_blind, va_recv hK hPc (ci := 3) (q0 := 0) rfl rfl, PcS_in hPc hK hDc hNw⟩ rfl rfl hl.1 rfl (lv_room (Nat.le_of_ble_eq_true rfl)) d_Pol_takeFactors_58 ⟨Nat.zero_le _, Nat.zero_le _⟩) hS (fun q _ h => hFc q h) hFc (fun r_22 u t H1 locs ht hvm hw hB hz1 hk1 hS => ?_)
          obtain ⟨hP1, hK1, hD1⟩ := hB
          rw [ht] at hP1
          subst hw
          obtain ⟨hP, hD⟩ := va_joinP (wr := [(a0_nodes, .inl (cI, 68, .inl w0_nodes_9)), (a0_factors, .inl (cJ, 68, .inr (.inl w0_factors_10)))]) (rx := (we_Pol_farPair cI cJ cG cZ a0 a0_near a0_nodes a0_factors a0_powers a0_product r0_near v0_versionSeen w0_near)) hP hD [0, 1] [2, 3] rfl rfl (by decide) (by decide) hk1 hFc hP1 hD1
          have hP : va_P (dC, dI) vwCl (wd_Pol_takeFactors cI cJ cG cZ a0 a0_near a0_nodes a0_factors a0_powers a0_product r0_near v0_versionSeen w0_nodes_9 w0_factors_10 w0_near) H1 := hP.part [2, 3, 0, 1] rfl
          have hD : va_D A (wd_Pol_takeFactors cI cJ cG cZ a0 a0_near a0_nodes a0_factors a0_powers a0_product r0_near v0_versionSeen w0_nodes_9 w0_factors_10 w0_near) := hD.part [2, 3, 0, 1] (by decide) rfl
          clear hP1 hK1 hD1 hk1 hPc hDc hFc ht hvm hz1
          generalize H1 = H at hP hS ⊢
          refine lv_if_ne (tgt := 117) hx hb d_Pol_takeFactors_61 (by decide) (fun c_23 => ?_) (fun c_23 => ?_)
          · have hm := ite_f c_23 hm
            obtain ⟨x4_24, ex4_24⟩ : ∃ y : Int32, y = x4_8 + 1 := ⟨_, rfl⟩
            have hm := gB_at ex4_24 hm
            refine lv_iinc (v := x4_24) (lv' := [(4, .int x4_24), (0, .ref a0), (1, .int p1), (2, .int x2_7), (3, .int x3_2)]) hx hb d_Pol_takeFactors_117 hl (k := 4) rfl (by rw [ex4_24]; rfl) (by decide) rfl (fun ls hl => ?_)
            refine lv_goto (tgt := 19) hx hb d_Pol_takeFactors_120 (by decide) ?_
            exact ih_19 _ hm _ _ _ _ rfl ls H locs (lv_sub hl [1, 2, 3, 4, 0] rfl) hP hD hS
          · have hm := ite_t c_23 hm
            refine lv_aload_n hx hb d_Pol_takeFactors_64 rfl (lv_at hl 0 rfl) ?_
            refine va_get (D := (dC, dI)) (ci := 3) (v := .ref a0_near) (C := R_Pol) (T := T_Pol) (N := 6) hx hb htt hin_Pol hown hK hP 0 rfl rfl 0 (by decide) (htt _ kt_120) (fun _ h9 => h9) rfl d_Pol_takeFactors_65 ?_
            refine lv_iload_n hx hb d_Pol_takeFactors_68 rfl (lv_at hl 1 rfl) ?_
            obtain ⟨hi_25, hm⟩ := gC_e hm
            have hj_26 := inb_lt hi_25
            refine gx_ald hx hb hK hP 1 2 rfl rfl (inb_vp hi_25) d_Pol_takeFactors_69 ?_
            refine lv_iload hx hb d_Pol_takeFactors_70 (lv_at hl 4 rfl) ?_
            obtain ⟨hi_27, hm⟩ := gC_e hm
            refine va_iald hx hb hK hP (4 + p1.toNatClampNeg) 0 (rows_get rfl hj_26) rfl (inb_vp hi_27) d_Pol_takeFactors_72 ?_
            refine lv_aload_n hx hb d_Pol_takeFactors_73 rfl (lv_at hl 0 rfl) ?_
            refine va_get (D := (dC, dI)) (ci := 3) (v := .ref a0_nodes) (C := R_Pol) (T := T_Pol) (N := 6) hx hb htt hin_Pol hown hK hP 0 rfl rfl 1 (by decide) (htt _ kt_121) (fun _ h9 => h9) rfl d_Pol_takeFactors_74 ?_
            refine lv_iload_n hx hb d_Pol_takeFactors_77 rfl (lv_at hl 1 rfl) ?_
            obtain ⟨hi_28, hm⟩ := gC_e hm
            refine va_iald hx hb hK hP 2 0 rfl rfl (inb_vp hi_28) d_Pol_takeFactors_78 ?_
            refine lv_iand hx hb d_Pol_takeFactors_79 ?_
            refine gx_bit hx hb hml hown htt kt_412 hK hNw hP hD hS hA hl.1 (lv_room (Nat.le_of_ble_eq_true rfl)) (Nat.le_of_ble_eq_true rfl) (Nat.le_of_ble_eq_true rfl) (Nat.zero_le _) (Nat.zero_le _) d_Pol_takeFactors_80 (fun H locs hP hD hS => ?_)
            refine lv_topi (fun x5_29 ex5_29 => ?_)
            have hm := gB_at ex5_29 hm
            refine lv_istore (lv' := [(5, .int x5_29), (0, .ref a0), (1, .int p1), (2, .int x2_7), (3, .int x3_2), (4, .int x4_8)]) hx hb d_Pol_takeFactors_83 hl (by decide) rfl (fun ls hl => ?_)
            refine lv_aload_n hx hb d_Pol_takeFactors_85 rfl (lv_at hl 1 rfl) ?_
            refine va_get (D := (dC, dI)) (ci := 3) (v := .ref a0_factors) (C := R_Pol) (T := T_Pol) (N := 6) hx hb htt hin_Pol hown hK hP 0 rfl rfl 2 (by decide) (htt _ kt_122) (fun _ h9 => h9) rfl d_Pol_takeFactors_86 ?_
            refine lv_iload_n hx hb d_Pol_takeFactors_89 rfl (lv_at hl 2 rfl) ?_
            refine lv_dup2_11 hx hb d_Pol_takeFactors_90 rfl rfl ?_
            obtain ⟨hi_30, hm⟩ := gC_e hm
            refine va_lald hx hb hK hP 3 1 rfl rfl (inb_vp hi_30) d_Pol_takeFactors_91 ?_
            refine lv_lconst (v := 1) hx hb d_Pol_takeFactors_92 (by decide) ?_
            refine lv_iload hx hb d_Pol_takeFactors_93 (lv_at hl 0 rfl) ?_
            refine lv_iconst (v := 4) hx hb d_Pol_takeFactors_95 (by decide) ?_
            refine lv_imul hx hb d_Pol_takeFactors_96 ?_
            refine lv_lshl hx hb d_Pol_takeFactors_97 rfl ?_
            refine lv_ladd hx hb d_Pol_takeFactors_98 ?_
            obtain ⟨hi_31, hm⟩ := gC_e hm
            refine va_last hx hb hK hP hD hS 3 1 rfl rfl (inb_vp hi_31) d_Pol_takeFactors_99 (fun H locs hP hD hS => ?_)
            have hP : va_P (dC, dI) vwCl (wd_Pol_takeFactors cI cJ cG cZ a0 a0_near a0_nodes a0_factors a0_powers a0_product r0_near v0_versionSeen w0_nodes_9 (vp_updL w0_factors_10 p1.toNatClampNeg ((w0_factors_10 p1.toNatClampNeg) + ((1 : Int64) <<< ((x5_29 * 4).toInt64 &&& 63)))) w0_near) H := hP
            have hD : va_D A (wd_Pol_takeFactors cI cJ cG cZ a0 a0_near a0_nodes a0_factors a0_powers a0_product r0_near v0_versionSeen w0_nodes_9 (vp_updL w0_factors_10 p1.toNatClampNeg ((w0_factors_10 p1.toNatClampNeg) + ((1 : Int64) <<< ((x5_29 * 4).toInt64 &&& 63)))) w0_near) := hD
            refine lv_aload_n hx hb d_Pol_takeFactors_100 rfl (lv_at hl 1 rfl) ?_
            refine va_get (D := (dC, dI)) (ci := 3) (v := .ref a0_nodes) (C := R_Pol) (T := T_Pol) (N := 6) hx hb htt hin_Pol hown hK hP 0 rfl rfl 1 (by decide) (htt _ kt_121) (fun _ h9 => h9) rfl d_Pol_takeFactors_101 ?_
            refine lv_iload_n hx hb d_Pol_takeFactors_104 rfl (lv_at hl 2 rfl) ?_
            refine lv_dup2_11 hx hb d_Pol_takeFactors_105 rfl rfl ?_
            obtain ⟨hi_32, hm⟩ := gC_e hm
            refine va_iald hx hb hK hP 2 0 rfl rfl (inb_vp hi_32) d_Pol_takeFactors_106 ?_
            refine lv_iconst (v := 1) hx hb d_Pol_takeFactors_107 (by decide) ?_
            refine lv_iload hx hb d_Pol_takeFactors_108 (lv_at hl 5 rfl) ?_
            refine lv_ishl hx hb d_Pol_takeFactors_110 ?_
            refine lv_iconst (v := (-1)) hx hb d_Pol_takeFactors_111 (by decide) ?_
            refine lv_ixor hx hb d_Pol_takeFactors_112 ?_
            refine lv_iand hx hb d_Pol_takeFactors_113 ?_
            obtain ⟨hi_33, hm⟩ := gC_e hm
            refine va_iast hx hb hK hP hD hS 2 0 rfl rfl (inb_vp hi_33) d_Pol_takeFactors_114 (fun H locs hP hD hS => ?_)
            have hP : va_P (dC, dI) vwCl (wd_Pol_takeFactors cI cJ cG cZ a0 a0_near a0_nodes a0_factors a0_powers a0_product r0_near v0_versionSeen (upd w0_nodes_9 p1.toNatClampNeg ((w0_nodes_9 p1.toNatClampNeg) &&& (((1 : Int32) <<< (x4_8 &&& 31)) ^^^ (-1)))) (vp_updL w0_factors_10 p1.toNatClampNeg ((w0_factors_10 p1.toNatClampNeg) + ((1 : Int64) <<< ((x5_29 * 4).toInt64 &&& 63)))) w0_near) H := hP
            have hD : va_D A (wd_Pol_takeFactors cI cJ cG cZ a0 a0_near a0_nodes a0_factors a0_powers a0_product r0_near v0_versionSeen (upd w0_nodes_9 p1.toNatClampNeg ((w0_nodes_9 p1.toNatClampNeg) &&& (((1 : Int32) <<< (x4_8 &&& 31)) ^^^ (-1)))) (vp_updL w0_factors_10 p1.toNatClampNeg ((w0_factors_10 p1.toNatClampNeg) + ((1 : Int64) <<< ((x5_29 * 4).toInt64 &&& 63)))) w0_near) := hD
            refine lv_iconst (v := 1) hx hb d_Pol_takeFactors_115 (by decide) ?_
            refine lv_istore_n (lv' := [(2, .int 1), (5, .int x5_29), (0, .ref a0), (1, .int p1), (3, .int x3_2), (4, .int x4_8)]) hx hb d_Pol_takeFactors_116 rfl hl (by decide) rfl (fun ls hl => ?_)
            obtain ⟨x4_34, ex4_34⟩ : ∃ y : Int32, y = x4_8 + 1 := ⟨_, rfl⟩
            have hm := gB_at ex4_34 hm
            refine lv_iinc (v := x4_34) (lv' := [(4, .int x4_34), (2, .int 1), (5, .int x5_29), (0, .ref a0), (1, .int p1), (3, .int x3_2)]) hx hb d_Pol_takeFactors_117 hl (k := 5) rfl (by rw [ex4_34]; rfl) (by decide) rfl (fun ls hl => ?_)
            refine lv_goto (tgt := 19) hx hb d_Pol_takeFactors_120 (by decide) ?_
            exact ih_19 _ hm _ _ _ _ rfl ls H locs (lv_sub hl [3, 4, 1, 5, 0] rfl) hP hD hS
theorem d_Pol_fewestNear_0 : decode prog_6_method_7_code 0 = .ok (.iconst 0, 1) := by decide +kernel
theorem d_Pol_fewestNear_1 : decode prog_6_method_7_code 1 = .ok (.istore_n 2, 1) := by decide +kernel
theorem d_Pol_fewestNear_2 : decode prog_6_method_7_code 2 = .ok (.bipush 12, 2) := by decide +kernel
theorem d_Pol_fewestNear_4 : decode prog_6_method_7_code 4 = .ok (.istore_n 3, 1) := by decide +kernel
theorem d_Pol_fewestNear_5 : decode prog_6_method_7_code 5 = .ok (.iconst 0, 1) := by decide +kernel
theorem d_Pol_fewestNear_6 : decode prog_6_method_7_code 6 = .ok (.istore 4, 2) := by decide +kernel
theorem d_Pol_fewestNear_8 : decode prog_6_method_7_code 8 = .ok (.iload 4, 2) := by decide +kernel
theorem d_Pol_fewestNear_10 : decode prog_6_method_7_code 10 = .ok (.bipush 12, 2) := by decide +kernel
theorem d_Pol_fewestNear_12 : decode prog_6_method_7_code 12 = .ok (.if_icmp .ge 56, 3) := by decide +kernel
theorem d_Pol_fewestNear_15 : decode prog_6_method_7_code 15 = .ok (.aload_n 0, 1) := by decide +kernel
theorem d_Pol_fewestNear_16 : decode prog_6_method_7_code 16 = .ok (.getfield 16, 3) := by decide +kernel
theorem d_Pol_fewestNear_19 : decode prog_6_method_7_code 19 = .ok (.iload_n 1, 1) := by decide +kernel
theorem d_Pol_fewestNear_20 : decode prog_6_method_7_code 20 = .ok (.iaload, 1) := by decide +kernel
theorem d_Pol_fewestNear_21 : decode prog_6_method_7_code 21 = .ok (.iload 4, 2) := by decide +kernel
theorem d_Pol_fewestNear_23 : decode prog_6_method_7_code 23 = .ok (.ishr, 1) := by decide +kernel
theorem d_Pol_fewestNear_24 : decode prog_6_method_7_code 24 = .ok (.iconst 1, 1) := by decide +kernel
theorem d_Pol_fewestNear_25 : decode prog_6_method_7_code 25 = .ok (.iand, 1) := by decide +kernel
theorem d_Pol_fewestNear_26 : decode prog_6_method_7_code 26 = .ok (.ifCond .eq 36, 3) := by decide +kernel
theorem d_Pol_fewestNear_29 : decode prog_6_method_7_code 29 = .ok (.aload_n 0, 1) := by decide +kernel
theorem d_Pol_fewestNear_30 : decode prog_6_method_7_code 30 = .ok (.getfield 13, 3) := by decide +kernel
theorem d_Pol_fewestNear_33 : decode prog_6_method_7_code 33 = .ok (.iload_n 1, 1) := by decide +kernel
theorem d_Pol_fewestNear_34 : decode prog_6_method_7_code 34 = .ok (.aaload, 1) := by decide +kernel
theorem d_Pol_fewestNear_35 : decode prog_6_method_7_code 35 = .ok (.iload 4, 2) := by decide +kernel
theorem d_Pol_fewestNear_37 : decode prog_6_method_7_code 37 = .ok (.iaload, 1) := by decide +kernel
theorem d_Pol_fewestNear_38 : decode prog_6_method_7_code 38 = .ok (.aload_n 0, 1) := by decide +kernel
theorem d_Pol_fewestNear_39 : decode prog_6_method_7_code 39 = .ok (.getfield 16, 3) := by decide +kernel
theorem d_Pol_fewestNear_42 : decode prog_6_method_7_code 42 = .ok (.iload_n 1, 1) := by decide +kernel
theorem d_Pol_fewestNear_43 : decode prog_6_method_7_code 43 = .ok (.iaload, 1) := by decide +kernel
theorem d_Pol_fewestNear_44 : decode prog_6_method_7_code 44 = .ok (.iand, 1) := by decide +kernel
theorem d_Pol_fewestNear_45 : decode prog_6_method_7_code 45 = .ok (.invokestatic 84, 3) := by decide +kernel
theorem d_Pol_fewestNear_48 : decode prog_6_method_7_code 48 = .ok (.istore 5, 2) := by decide +kernel
theorem d_Pol_fewestNear_50 : decode prog_6_method_7_code 50 = .ok (.iload 5, 2) := by decide +kernel
theorem d_Pol_fewestNear_52 : decode prog_6_method_7_code 52 = .ok (.iload_n 3, 1) := by decide +kernel
theorem d_Pol_fewestNear_53 : decode prog_6_method_7_code 53 = .ok (.if_icmp .ge 9, 3) := by decide +kernel
theorem d_Pol_fewestNear_56 : decode prog_6_method_7_code 56 = .ok (.iload 4, 2) := by decide +kernel
theorem d_Pol_fewestNear_58 : decode prog_6_method_7_code 58 = .ok (.istore_n 2, 1) := by decide +kernel
theorem d_Pol_fewestNear_59 : decode prog_6_method_7_code 59 = .ok (.iload 5, 2) := by decide +kernel
theorem d_Pol_fewestNear_61 : decode prog_6_method_7_code 61 = .ok (.istore_n 3, 1) := by decide +kernel
theorem d_Pol_fewestNear_62 : decode prog_6_method_7_code 62 = .ok (.iinc 4 1, 3) := by decide +kernel
theorem d_Pol_fewestNear_65 : decode prog_6_method_7_code 65 = .ok (.goto (-57), 3) := by decide +kernel
theorem d_Pol_fewestNear_68 : decode prog_6_method_7_code 68 = .ok (.iload_n 2, 1) := by decide +kernel
theorem d_Pol_fewestNear_69 : decode prog_6_method_7_code 69 = .ok (.ireturn, 1) := by decide +kernel
abbrev wd_Pol_fewestNear (cI cJ cG cZ : ClassId) (a0 a0_near a0_nodes a0_factors a0_powers a0_product : Nat) (r0_near : Nat → Nat) (v0_versionSeen : Int32) (w0_nodes : Nat → Int32) (w0_near : Nat → Nat → Int32) : va_W := [(a0, .inr (3, [.ref a0_near, .ref a0_nodes, .ref a0_factors, .ref a0_powers, .ref a0_product, .int v0_versionSeen])), (a0_near, .inl (cG, 68, .inr (.inr (.inr (.inr (gO r0_near 68)))))), (a0_nodes, .inl (cI, 68, .inl w0_nodes))] ++ rowsW r0_near cI 12 68 w0_near
abbrev we_Pol_fewestNear (cI cJ cG cZ : ClassId) (a0 a0_near a0_nodes a0_factors a0_powers a0_product : Nat) (r0_near : Nat → Nat) (v0_versionSeen : Int32) (w0_nodes : Nat → Int32) (w0_near : Nat → Nat → Int32) : va_W := [(a0, .inr (3, [.ref a0_near, .ref a0_nodes, .ref a0_factors, .ref a0_powers, .ref a0_product, .int v0_versionSeen])), (a0_near, .inl (cG, 68, .inr (.inr (.inr (.inr (gO r0_near 68)))))), (a0_nodes, .inl (cI, 68, .inl w0_nodes))]
abbrev us_Pol_fewestNear : List Cond := .code y_Pol_fewestNear prog_6_method_7_code 6 (some .int) :: gtbl
abbrev rm_Pol_fewestNear : Room := { frames := 1, cells := 0, slots := 0, locals := 20 }
def m_Pol_fewestNear (F : Nat) (v0_versionSeen : Int32) (w0_nodes : Nat → Int32) (w0_near : Nat → Nat → Int32) (p1 : Int32) : Option (Int32) :=
  gL (fun (k_8 : (Int32 × Int32 × Int32) → Option (Int32)) (z_8 : Int32 × Int32 × Int32) => match z_8 with
  | (x2_1, x3_2, x4_3) =>
  if (12 : Int32) ≤ x4_3 then (
    some x2_1
  ) else (
    gC (inb p1 68) (
    if (((w0_nodes p1.toNatClampNeg) >>> (x4_3 &&& 31)) &&& 1) = 0 then (
      gB (x4_3 + 1) (fun x4_7 =>
      k_8 (x2_1, x3_2, x4_7))
    ) else (
      gC (inb p1 68) (
      gC (inb x4_3 12) (
      gC (inb p1 68) (
      gB (bitc ((w0_near p1.toNatClampNeg x4_3.toNatClampNeg) &&& (w0_nodes p1.toNatClampNeg))) (fun x5_12 =>
      if x3_2 ≤ x5_12 then (
        gB (x4_3 + 1) (fun x4_14 =>
        k_8 (x2_1, x3_2, x4_14))
      ) else (
        gB (x4_3 + 1) (fun x4_15 =>
        k_8 (x4_3, x5_12, x4_15))
      )))))
    ))
  )
  ) F (0, 12, 0)
set_option maxHeartbeats 4000000 in
set_option maxRecDepth 100000 in
theorem c_Pol_fewestNear (l : Launch) (dC : Nat → ClassId) (dI : Nat → Nat → Nat) (cI cJ cG cZ : ClassId) (a0 a0_near a0_nodes a0_factors a0_powers a0_product : Nat) (r0_near : Nat → Nat) (sz : Nat) (F : Nat) (v0_versionSeen : Int32) (w0_nodes : Nat → Int32) (w0_near : Nat → Nat → Int32) (p1 : Int32) (ret : Int32) (hm : m_Pol_fewestNear F v0_versionSeen w0_nodes w0_near p1 = some ret) : Met l y_Pol_fewestNear us_Pol_fewestNear rm_Pol_fewestNear (PcS (dC, dI) (tyL cI cJ cG cZ) [.ref a0, .int p1] sz (wd_Pol_fewestNear cI cJ cG cZ a0 a0_near a0_nodes a0_factors a0_powers a0_product r0_near v0_versionSeen w0_nodes w0_near)) (va_Qi (fun (r : Int32) (_ : Unit) => ret = r) (fun _ t => PoS (dC, dI) (tyL cI cJ cG cZ) (wd_Pol_fewestNear cI cJ cG cZ a0 a0_near a0_nodes a0_factors a0_powers a0_product r0_near v0_versionSeen w0_nodes w0_near) (va_A (wd_Pol_fewestNear cI cJ cG cZ a0 a0_near a0_nodes a0_factors a0_powers a0_product r0_near v0_versionSeen w0_nodes w0_near) sz) t) (va_A (wd_Pol_fewestNear cI cJ cG cZ a0 a0_near a0_nodes a0_factors a0_powers a0_product r0_near v0_versionSeen w0_nodes w0_near) sz)) 0 0 (va_A (wd_Pol_fewestNear cI cJ cG cZ a0 a0_near a0_nodes a0_factors a0_powers a0_product r0_near v0_versionSeen w0_nodes w0_near) sz) := by
  refine Met.ofW (cc := prog_6_method_7_code) (maxL := 6) (ret := (some .int)) (by decide) rfl ?_
  intro p e s m args below meth c s₁ B hml hv
  obtain ⟨rfl, hsz, hP, hK, hD0, hNw⟩ := hv
  have hx := B.exec
  have hb := B.bytes
  have hr := B.returns
  have htt : ∀ w ∈ gtbl, w.before _ s = true := fun w h => atoms_spec (ws := us_Pol_fewestNear) B.pre w (List.mem_cons_of_mem _ h)
  have hown : s.vm.findClass R_Pol = some m.cls := findClass_of_methodNamed B.named
  have hlocks := B.notSynchronized
  subst hsz
  have hD := hD0.self (sz := s.heap.size)
  generalize hAe : va_A (wd_Pol_fewestNear cI cJ cG cZ a0 a0_near a0_nodes a0_factors a0_powers a0_product r0_near v0_versionSeen w0_nodes w0_near) s.heap.size = A at hD ⊢
  have hA : ∀ q : Nat, s.heap.size ≤ q → A q := fun q h => by rw [← hAe]; exact Or.inr h
  clear hAe hD0
  have hS : va_S A s.heap s.heap [] := va_S.rf
  have hl := lv_entry ([.ref a0, .int p1]) (n := 6) (Nat.le_of_ble_eq_true rfl)
  rw [lg_entry_eq]
  generalize (lg_sl ([.ref a0, .int p1]) ++ List.replicate (6 - (lg_sl ([.ref a0, .int p1])).length) Slot.unset).toArray = ls at hl ⊢
  have hl : lv_has ls 6 [(0, .ref a0), (1, .int p1)] := hl
  generalize hH : s.heap = H at hP ⊢
  have hS : va_S A s.heap H [] := hH ▸ hS
  generalize hLo : ([] : List Loc) = locs at hS ⊢
  clear hH hLo
  unfold m_Pol_fewestNear at hm
  refine lv_iconst (v := 0) hx hb d_Pol_fewestNear_0 (by decide) ?_
  refine lv_istore_n (lv' := [(2, .int 0), (0, .ref a0), (1, .int p1)]) hx hb d_Pol_fewestNear_1 rfl hl (by decide) rfl (fun ls hl => ?_)
  refine lv_bipush (v := 12) hx hb d_Pol_fewestNear_2 (by decide) ?_
  refine lv_istore_n (lv' := [(3, .int 12), (2, .int 0), (0, .ref a0), (1, .int p1)]) hx hb d_Pol_fewestNear_4 rfl hl (by decide) rfl (fun ls hl => ?_)
  refine lv_iconst (v := 0) hx hb d_Pol_fewestNear_5 (by decide) ?_
  refine lv_istore (lv' := [(4, .int 0), (3, .int 12), (2, .int 0), (0, .ref a0), (1, .int p1)]) hx hb d_Pol_fewestNear_6 hl (by decide) rfl (fun ls hl => ?_)
  refine gL_e (P := (fun (z_8 : Int32 × Int32 × Int32) => ∀ (x2_1 : Int32), ∀ (x3_2 : Int32), ∀ (x4_3 : Int32), z_8 = (x2_1, x3_2, x4_3) → ∀ (ls : Array Slot) (H : Heap) (locs : List Loc), lv_has ls 6 [(0, .ref a0), (1, .int p1), (2, .int x2_1), (3, .int x3_2), (4, .int x4_3)] → va_P (dC, dI) vwCl (wd_Pol_fewestNear cI cJ cG cZ a0 a0_near a0_nodes a0_factors a0_powers a0_product r0_near v0_versionSeen w0_nodes w0_near) H → va_D A (wd_Pol_fewestNear cI cJ cG cZ a0 a0_near a0_nodes a0_factors a0_powers a0_product r0_near v0_versionSeen w0_nodes w0_near) → va_S A s.heap H locs → W p l e (headSpec us_Pol_fewestNear rm_Pol_fewestNear).room s m ([.ref a0, .int p1] : List Value).toArray below meth c H locs 0 0 (MQ below (va_Qi (fun (r : Int32) (_ : Unit) => ret = r) (fun _ t => PoS (dC, dI) (tyL cI cJ cG cZ) (wd_Pol_fewestNear cI cJ cG cZ a0 a0_near a0_nodes a0_factors a0_powers a0_product r0_near v0_versionSeen w0_nodes w0_near) A t) A) ([.ref a0, .int p1] : List Value).toArray s 0 0 A) (F0 m 8 ls []))) hm (fun k_8 z_8 ih_8 hm => ?_) _ _ _ rfl ls H locs (lv_sub hl [3, 4, 2, 1, 0] rfl) hP hD hS
  intro x2_1 x3_2 x4_3 hz ls H locs hl hP hD hS
  subst hz
  dsimp only at hm
  refine lv_iload hx hb d_Pol_fewestNear_8 (lv_at hl 4 rfl) ?_
  refine lv_bipush (v := 12) hx hb d_Pol_fewestNear_10 (by decide) ?_
  refine lv_icmp_ge (tgt := 68) hx hb d_Pol_fewestNear_12 (by decide) (fun c_4 => ?_) (fun c_4 => ?_)
  · have hm := ite_t c_4 hm
    refine lv_iload_n hx hb d_Pol_fewestNear_68 rfl (lv_at hl 2 rfl) ?_
    cases hm
    exact W.iret hx hb hr (fun t ht hW => ⟨⟨_, (), rfl, rfl, by rw [ht]; exact hP, va_K.moved hW.alike hK, hD⟩, hS.F ht⟩) hS.2.2 d_Pol_fewestNear_69
  · have hm := ite_f c_4 hm
    refine lv_aload_n hx hb d_Pol_fewestNear_15 rfl (lv_at hl 0 rfl) ?_
    refine va_get (D := (dC, dI)) (ci := 3) (v := .ref a0_nodes) (C := R_Pol) (T := T_Pol) (N := 6) hx hb htt hin_Pol hown hK hP 0 rfl rfl 1 (by decide) (htt _ kt_121) (fun _ h9 => h9) rfl d_Pol_fewestNear_16 ?_
    refine lv_iload_n hx hb d_Pol_fewestNear_19 rfl (lv_at hl 1 rfl) ?_
    obtain ⟨hi_5, hm⟩ := gC_e hm
    refine va_iald hx hb hK hP 2 0 rfl rfl (inb_vp hi_5) d_Pol_fewestNear_20 ?_
    refine lv_iload hx hb d_Pol_fewestNear_21 (lv_at hl 4 rfl) ?_
    refine lv_ishr hx hb d_Pol_fewestNear_23 ?_
    refine lv_iconst (v := 1) hx hb d_Pol_fewestNear_24 (by decide) ?_
    refine lv_iand hx hb d_Pol_fewestNear_25 ?_
    refine lv_if_eq (tgt := 62) hx hb d_Pol_fewestNear_26 (by decide) (fun c_6 => ?_) (fun c_6 => ?_)
    · have hm := ite_t c_6 hm
      obtain ⟨x4_7, ex4_7⟩ : ∃ y : Int32, y = x4_3 + 1 := ⟨_, rfl⟩
      have hm := gB_at ex4_7 hm
      refine lv_iinc (v := x4_7) (lv' := [(4, .int x4_7), (0, .ref a0), (1, .int p1), (2, .int x2_1), (3, .int x3_2)]) hx hb d_Pol_fewestNear_62 hl (k := 4) rfl (by rw [ex4_7]; rfl) (by decide) rfl (fun ls hl => ?_)
      refine lv_goto (tgt := 8) hx hb d_Pol_fewestNear_65 (by decide) ?_
      exact ih_8 _ hm _ _ _ rfl ls H locs (lv_sub hl [1, 2, 3, 4, 0] rfl) hP hD hS
    · have hm := ite_f c_6 hm
      refine lv_aload_n hx hb d_Pol_fewestNear_29 rfl (lv_at hl 0 rfl) ?_
      refine va_get (D := (dC, dI)) (ci := 3) (v := .ref a0_near) (C := R_Pol) (T := T_Pol) (N := 6) hx hb htt hin_Pol hown hK hP 0 rfl rfl 0 (by decide) (htt _ kt_120) (fun _ h9 => h9) rfl d_Pol_fewestNear_30 ?_
      refine lv_iload_n hx hb d_Pol_fewestNear_33 rfl (lv_at hl 1 rfl) ?_
      obtain ⟨hi_8, hm⟩ := gC_e hm
      have hj_9 := inb_lt hi_8
      refine gx_ald hx hb hK hP 1 2 rfl rfl (inb_vp hi_8) d_Pol_fewestNear_34 ?_
      refine lv_iload hx hb d_Pol_fewestNear_35 (lv_at hl 4 rfl) ?_
      obtain ⟨hi_10, hm⟩ := gC_e hm
      refine va_iald hx hb hK hP (3 + p1.toNatClampNeg) 0 (rows_get rfl hj_9) rfl (inb_vp hi_10) d_Pol_fewestNear_37 ?_
      refine lv_aload_n hx hb d_Pol_fewestNear_38 rfl (lv_at hl 0 rfl) ?_
      refine va_get (D := (dC, dI)) (ci := 3) (v := .ref a0_nodes) (C := R_Pol) (T := T_Pol) (N := 6) hx hb htt hin_Pol hown hK hP 0 rfl rfl 1 (by decide) (htt _ kt_121) (fun _ h9 => h9) rfl d_Pol_fewestNear_39 ?_
      refine lv_iload_n hx hb d_Pol_fewestNear_42 rfl (lv_at hl 1 rfl) ?_
      obtain ⟨hi_11, hm⟩ := gC_e hm
      refine va_iald hx hb hK hP 2 0 rfl rfl (inb_vp hi_11) d_Pol_fewestNear_43 ?_
      refine lv_iand hx hb d_Pol_fewestNear_44 ?_
      refine gx_bit hx hb hml hown htt kt_412 hK hNw hP hD hS hA hl.1 (lv_room (Nat.le_of_ble_eq_true rfl)) (Nat.le_of_ble_eq_true rfl) (Nat.le_of_ble_eq_true rfl) (Nat.zero_le _) (Nat.zero_le _) d_Pol_fewestNear_45 (fun H locs hP hD hS => ?_)
      refine lv_topi (fun x5_12 ex5_12 => ?_)
      have hm := gB_at ex5_12 hm
      refine lv_istore (lv' := [(5, .int x5_12), (0, .ref a0), (1, .int p1), (2, .int x2_1), (3, .int x3_2), (4, .int x4_3)]) hx hb d_Pol_fewestNear_48 hl (by decide) rfl (fun ls hl => ?_)
      refine lv_iload hx hb d_Pol_fewestNear_50 (lv_at hl 0 rfl) ?_
      refine lv_iload_n hx hb d_Pol_fewestNear_52 rfl (lv_at hl 4 rfl) ?_
      refine lv_icmp_ge (tgt := 62) hx hb d_Pol_fewestNear_53 (by decide) (fun c_13 => ?_) (fun c_13 => ?_)
      · have hm := ite_t c_13 hm
        obtain ⟨x4_14, ex4_14⟩ : ∃ y : Int32, y = x4_3 + 1 := ⟨_, rfl⟩
        have hm := gB_at ex4_14 hm
        refine lv_iinc (v := x4_14) (lv' := [(4, .int x4_14), (5, .int x5_12), (0, .ref a0), (1, .int p1), (2, .int x2_1), (3, .int x3_2)]) hx hb d_Pol_fewestNear_62 hl (k := 5) rfl (by rw [ex4_14]; rfl) (by decide) rfl (fun ls hl => ?_)
        refine lv_goto (tgt := 8) hx hb d_Pol_fewestNear_65 (by decide) ?_
        exact ih_8 _ hm _ _ _ rfl ls H locs (lv_sub hl [2, 3, 4, 5, 0] rfl) hP hD hS
      · have hm := ite_f c_13 hm
        refine lv_iload hx hb d_Pol_fewestNear_56 (lv_at hl 5 rfl) ?_
        refine lv_istore_n (lv' := [(2, .int x4_3), (5, .int x5_12), (0, .ref a0), (1, .int p1), (3, .int x3_2), (4, .int x4_3)]) hx hb d_Pol_fewestNear_58 rfl hl (by decide) rfl (fun ls hl => ?_)
        refine lv_iload hx hb d_Pol_fewestNear_59 (lv_at hl 1 rfl) ?_
        refine lv_istore_n (lv' := [(3, .int x5_12), (2, .int x4_3), (5, .int x5_12), (0, .ref a0), (1, .int p1), (4, .int x4_3)]) hx hb d_Pol_fewestNear_61 rfl hl (by decide) rfl (fun ls hl => ?_)
        obtain ⟨x4_15, ex4_15⟩ : ∃ y : Int32, y = x4_3 + 1 := ⟨_, rfl⟩
        have hm := gB_at ex4_15 hm
        refine lv_iinc (v := x4_15) (lv' := [(4, .int x4_15), (3, .int x5_12), (2, .int x4_3), (5, .int x5_12), (0, .ref a0), (1, .int p1)]) hx hb d_Pol_fewestNear_62 hl (k := 5) rfl (by rw [ex4_15]; rfl) (by decide) rfl (fun ls hl => ?_)
        refine lv_goto (tgt := 8) hx hb d_Pol_fewestNear_65 (by decide) ?_
        exact ih_8 _ hm _ _ _ rfl ls H locs (lv_sub hl [4, 5, 2, 1, 0] rfl) hP hD hS
theorem d_Pol_addProduct_0 : decode prog_6_method_9_code 0 = .ok (.aload_n 0, 1) := by decide +kernel
theorem d_Pol_addProduct_1 : decode prog_6_method_9_code 1 = .ok (.getfield 27, 3) := by decide +kernel
theorem d_Pol_addProduct_4 : decode prog_6_method_9_code 4 = .ok (.lconst 0, 1) := by decide +kernel
theorem d_Pol_addProduct_5 : decode prog_6_method_9_code 5 = .ok (.invokestatic 45, 3) := by decide +kernel
theorem d_Pol_addProduct_8 : decode prog_6_method_9_code 8 = .ok (.aload_n 0, 1) := by decide +kernel
theorem d_Pol_addProduct_9 : decode prog_6_method_9_code 9 = .ok (.getfield 27, 3) := by decide +kernel
theorem d_Pol_addProduct_12 : decode prog_6_method_9_code 12 = .ok (.iconst 0, 1) := by decide +kernel
theorem d_Pol_addProduct_13 : decode prog_6_method_9_code 13 = .ok (.lconst 1, 1) := by decide +kernel
theorem d_Pol_addProduct_14 : decode prog_6_method_9_code 14 = .ok (.lastore, 1) := by decide +kernel
theorem d_Pol_addProduct_15 : decode prog_6_method_9_code 15 = .ok (.iconst 0, 1) := by decide +kernel
theorem d_Pol_addProduct_16 : decode prog_6_method_9_code 16 = .ok (.istore_n 3, 1) := by decide +kernel
theorem d_Pol_addProduct_17 : decode prog_6_method_9_code 17 = .ok (.iconst 0, 1) := by decide +kernel
theorem d_Pol_addProduct_18 : decode prog_6_method_9_code 18 = .ok (.istore 4, 2) := by decide +kernel
theorem d_Pol_addProduct_20 : decode prog_6_method_9_code 20 = .ok (.iload 4, 2) := by decide +kernel
theorem d_Pol_addProduct_22 : decode prog_6_method_9_code 22 = .ok (.bipush 12, 2) := by decide +kernel
theorem d_Pol_addProduct_24 : decode prog_6_method_9_code 24 = .ok (.if_icmp .ge 105, 3) := by decide +kernel
theorem d_Pol_addProduct_27 : decode prog_6_method_9_code 27 = .ok (.lload_n 1, 1) := by decide +kernel
theorem d_Pol_addProduct_28 : decode prog_6_method_9_code 28 = .ok (.iload 4, 2) := by decide +kernel
theorem d_Pol_addProduct_30 : decode prog_6_method_9_code 30 = .ok (.iconst 4, 1) := by decide +kernel
theorem d_Pol_addProduct_31 : decode prog_6_method_9_code 31 = .ok (.imul, 1) := by decide +kernel
theorem d_Pol_addProduct_32 : decode prog_6_method_9_code 32 = .ok (.lshr, 1) := by decide +kernel
theorem d_Pol_addProduct_33 : decode prog_6_method_9_code 33 = .ok (.l2i, 1) := by decide +kernel
theorem d_Pol_addProduct_34 : decode prog_6_method_9_code 34 = .ok (.bipush 15, 2) := by decide +kernel
theorem d_Pol_addProduct_36 : decode prog_6_method_9_code 36 = .ok (.iand, 1) := by decide +kernel
theorem d_Pol_addProduct_37 : decode prog_6_method_9_code 37 = .ok (.istore 5, 2) := by decide +kernel
theorem d_Pol_addProduct_39 : decode prog_6_method_9_code 39 = .ok (.iconst 0, 1) := by decide +kernel
theorem d_Pol_addProduct_40 : decode prog_6_method_9_code 40 = .ok (.istore 6, 2) := by decide +kernel
theorem d_Pol_addProduct_42 : decode prog_6_method_9_code 42 = .ok (.iload 6, 2) := by decide +kernel
theorem d_Pol_addProduct_44 : decode prog_6_method_9_code 44 = .ok (.iload 5, 2) := by decide +kernel
theorem d_Pol_addProduct_46 : decode prog_6_method_9_code 46 = .ok (.if_icmp .ge 77, 3) := by decide +kernel
theorem d_Pol_addProduct_49 : decode prog_6_method_9_code 49 = .ok (.iload_n 3, 1) := by decide +kernel
theorem d_Pol_addProduct_50 : decode prog_6_method_9_code 50 = .ok (.bipush 12, 2) := by decide +kernel
theorem d_Pol_addProduct_52 : decode prog_6_method_9_code 52 = .ok (.if_icmp .ge 71, 3) := by decide +kernel
theorem d_Pol_addProduct_55 : decode prog_6_method_9_code 55 = .ok (.iinc 3 1, 3) := by decide +kernel
theorem d_Pol_addProduct_58 : decode prog_6_method_9_code 58 = .ok (.iload_n 3, 1) := by decide +kernel
theorem d_Pol_addProduct_59 : decode prog_6_method_9_code 59 = .ok (.istore 7, 2) := by decide +kernel
theorem d_Pol_addProduct_61 : decode prog_6_method_9_code 61 = .ok (.iload 7, 2) := by decide +kernel
theorem d_Pol_addProduct_63 : decode prog_6_method_9_code 63 = .ok (.ifCond .le 37, 3) := by decide +kernel
theorem d_Pol_addProduct_66 : decode prog_6_method_9_code 66 = .ok (.aload_n 0, 1) := by decide +kernel
theorem d_Pol_addProduct_67 : decode prog_6_method_9_code 67 = .ok (.getfield 27, 3) := by decide +kernel
theorem d_Pol_addProduct_70 : decode prog_6_method_9_code 70 = .ok (.iload 7, 2) := by decide +kernel
theorem d_Pol_addProduct_72 : decode prog_6_method_9_code 72 = .ok (.aload_n 0, 1) := by decide +kernel
theorem d_Pol_addProduct_73 : decode prog_6_method_9_code 73 = .ok (.getfield 27, 3) := by decide +kernel
theorem d_Pol_addProduct_76 : decode prog_6_method_9_code 76 = .ok (.iload 7, 2) := by decide +kernel
theorem d_Pol_addProduct_78 : decode prog_6_method_9_code 78 = .ok (.iconst 1, 1) := by decide +kernel
theorem d_Pol_addProduct_79 : decode prog_6_method_9_code 79 = .ok (.isub, 1) := by decide +kernel
theorem d_Pol_addProduct_80 : decode prog_6_method_9_code 80 = .ok (.laload, 1) := by decide +kernel
theorem d_Pol_addProduct_81 : decode prog_6_method_9_code 81 = .ok (.iload 4, 2) := by decide +kernel
theorem d_Pol_addProduct_83 : decode prog_6_method_9_code 83 = .ok (.i2l, 1) := by decide +kernel
theorem d_Pol_addProduct_84 : decode prog_6_method_9_code 84 = .ok (.aload_n 0, 1) := by decide +kernel
theorem d_Pol_addProduct_85 : decode prog_6_method_9_code 85 = .ok (.getfield 27, 3) := by decide +kernel
theorem d_Pol_addProduct_88 : decode prog_6_method_9_code 88 = .ok (.iload 7, 2) := by decide +kernel
theorem d_Pol_addProduct_90 : decode prog_6_method_9_code 90 = .ok (.laload, 1) := by decide +kernel
theorem d_Pol_addProduct_91 : decode prog_6_method_9_code 91 = .ok (.lmul, 1) := by decide +kernel
theorem d_Pol_addProduct_92 : decode prog_6_method_9_code 92 = .ok (.lsub, 1) := by decide +kernel
theorem d_Pol_addProduct_93 : decode prog_6_method_9_code 93 = .ok (.lastore, 1) := by decide +kernel
theorem d_Pol_addProduct_94 : decode prog_6_method_9_code 94 = .ok (.iinc 7 (-1), 3) := by decide +kernel
theorem d_Pol_addProduct_97 : decode prog_6_method_9_code 97 = .ok (.goto (-36), 3) := by decide +kernel
theorem d_Pol_addProduct_100 : decode prog_6_method_9_code 100 = .ok (.aload_n 0, 1) := by decide +kernel
theorem d_Pol_addProduct_101 : decode prog_6_method_9_code 101 = .ok (.getfield 27, 3) := by decide +kernel
theorem d_Pol_addProduct_104 : decode prog_6_method_9_code 104 = .ok (.iconst 0, 1) := by decide +kernel
theorem d_Pol_addProduct_105 : decode prog_6_method_9_code 105 = .ok (.iload 4, 2) := by decide +kernel
theorem d_Pol_addProduct_107 : decode prog_6_method_9_code 107 = .ok (.ineg, 1) := by decide +kernel
theorem d_Pol_addProduct_108 : decode prog_6_method_9_code 108 = .ok (.i2l, 1) := by decide +kernel
theorem d_Pol_addProduct_109 : decode prog_6_method_9_code 109 = .ok (.aload_n 0, 1) := by decide +kernel
theorem d_Pol_addProduct_110 : decode prog_6_method_9_code 110 = .ok (.getfield 27, 3) := by decide +kernel
theorem d_Pol_addProduct_113 : decode prog_6_method_9_code 113 = .ok (.iconst 0, 1) := by decide +kernel
theorem d_Pol_addProduct_114 : decode prog_6_method_9_code 114 = .ok (.laload, 1) := by decide +kernel
theorem d_Pol_addProduct_115 : decode prog_6_method_9_code 115 = .ok (.lmul, 1) := by decide +kernel
theorem d_Pol_addProduct_116 : decode prog_6_method_9_code 116 = .ok (.lastore, 1) := by decide +kernel
theorem d_Pol_addProduct_117 : decode prog_6_method_9_code 117 = .ok (.iinc 6 1, 3) := by decide +kernel
theorem d_Pol_addProduct_120 : decode prog_6_method_9_code 120 = .ok (.goto (-78), 3) := by decide +kernel
theorem d_Pol_addProduct_123 : decode prog_6_method_9_code 123 = .ok (.iinc 4 1, 3) := by decide +kernel
theorem d_Pol_addProduct_126 : decode prog_6_method_9_code 126 = .ok (.goto (-106), 3) := by decide +kernel
theorem d_Pol_addProduct_129 : decode prog_6_method_9_code 129 = .ok (.iconst 0, 1) := by decide +kernel
theorem d_Pol_addProduct_130 : decode prog_6_method_9_code 130 = .ok (.istore 4, 2) := by decide +kernel
theorem d_Pol_addProduct_132 : decode prog_6_method_9_code 132 = .ok (.iload 4, 2) := by decide +kernel
theorem d_Pol_addProduct_134 : decode prog_6_method_9_code 134 = .ok (.iload_n 3, 1) := by decide +kernel
theorem d_Pol_addProduct_135 : decode prog_6_method_9_code 135 = .ok (.if_icmp .gt 26, 3) := by decide +kernel
theorem d_Pol_addProduct_138 : decode prog_6_method_9_code 138 = .ok (.aload_n 0, 1) := by decide +kernel
theorem d_Pol_addProduct_139 : decode prog_6_method_9_code 139 = .ok (.getfield 24, 3) := by decide +kernel
theorem d_Pol_addProduct_142 : decode prog_6_method_9_code 142 = .ok (.iload 4, 2) := by decide +kernel
theorem d_Pol_addProduct_144 : decode prog_6_method_9_code 144 = .ok (.dup2, 1) := by decide +kernel
theorem d_Pol_addProduct_145 : decode prog_6_method_9_code 145 = .ok (.laload, 1) := by decide +kernel
theorem d_Pol_addProduct_146 : decode prog_6_method_9_code 146 = .ok (.aload_n 0, 1) := by decide +kernel
theorem d_Pol_addProduct_147 : decode prog_6_method_9_code 147 = .ok (.getfield 27, 3) := by decide +kernel
theorem d_Pol_addProduct_150 : decode prog_6_method_9_code 150 = .ok (.iload 4, 2) := by decide +kernel
theorem d_Pol_addProduct_152 : decode prog_6_method_9_code 152 = .ok (.laload, 1) := by decide +kernel
theorem d_Pol_addProduct_153 : decode prog_6_method_9_code 153 = .ok (.ladd, 1) := by decide +kernel
theorem d_Pol_addProduct_154 : decode prog_6_method_9_code 154 = .ok (.lastore, 1) := by decide +kernel
theorem d_Pol_addProduct_155 : decode prog_6_method_9_code 155 = .ok (.iinc 4 1, 3) := by decide +kernel
theorem d_Pol_addProduct_158 : decode prog_6_method_9_code 158 = .ok (.goto (-26), 3) := by decide +kernel
theorem d_Pol_addProduct_161 : decode prog_6_method_9_code 161 = .ok (.return_, 1) := by decide +kernel
abbrev wd_Pol_addProduct (cI cJ cG cZ : ClassId) (a0 a0_near a0_nodes a0_factors a0_powers a0_product : Nat) (v0_versionSeen : Int32) (w0_powers : Nat → Int64) (w0_product : Nat → Int64) : va_W := [(a0, .inr (3, [.ref a0_near, .ref a0_nodes, .ref a0_factors, .ref a0_powers, .ref a0_product, .int v0_versionSeen])), (a0_powers, .inl (cJ, 13, .inr (.inl w0_powers))), (a0_product, .inl (cJ, 13, .inr (.inl w0_product)))]
abbrev us_Pol_addProduct : List Cond := .code y_Pol_addProduct prog_6_method_9_code 8 none :: gtbl
abbrev rm_Pol_addProduct : Room := { frames := 1, cells := 0, slots := 0, locals := 24 }
def m_Pol_addProduct (F : Nat) (v0_versionSeen : Int32) (w0_powers : Nat → Int64) (w0_product : Nat → Int64) (p1 : Int64) : Option ((Nat → Int64) × (Nat → Int64)) :=
  gC (inb 0 13) (
  gL (fun (k_20 : (Int32 × Int32 × (Nat → Int64)) → Option ((Nat → Int64) × (Nat → Int64))) (z_20 : Int32 × Int32 × (Nat → Int64)) => match z_20 with
  | (x3_2, x4_3, w0_product_4) =>
  if (12 : Int32) ≤ x4_3 then (
    gL (fun (k_132 : (Int32 × (Nat → Int64)) → Option ((Nat → Int64) × (Nat → Int64))) (z_132 : Int32 × (Nat → Int64)) => match z_132 with
    | (x4_6, w0_powers_7) =>
    if x3_2 < x4_6 then (
      some (w0_powers_7, w0_product_4)
    ) else (
      gC (inb x4_6 13) (
      gC (inb x4_6 13) (
      gC (inb x4_6 13) (
      gB (x4_6 + 1) (fun x4_12 =>
      k_132 (x4_12, vp_updL w0_powers_7 x4_6.toNatClampNeg ((w0_powers_7 x4_6.toNatClampNeg) + (w0_product_4 x4_6.toNatClampNeg)))))))
    )
    ) F (0, w0_powers)
  ) else (
    gB (((p1 >>> ((x4_3 * 4).toInt64 &&& 63)).toInt32) &&& 15) (fun x5_13 =>
    gL (fun (k_42 : (Int32 × Int32 × (Nat → Int64)) → Option ((Nat → Int64) × (Nat → Int64))) (z_42 : Int32 × Int32 × (Nat → Int64)) => match z_42 with
    | (x3_14, x6_15, w0_product_16) =>
    if x5_13 ≤ x6_15 then (
      gB (x4_3 + 1) (fun x4_18 =>
      k_20 (x3_14, x4_18, w0_product_16))
    ) else (
      if (12 : Int32) ≤ x3_14 then (
        gB (x4_3 + 1) (fun x4_20 =>
        k_20 (x3_14, x4_20, w0_product_16))
      ) else (
        gB (x3_14 + 1) (fun x3_21 =>
        gL (fun (k_61 : (Int32 × (Nat → Int64)) → Option ((Nat → Int64) × (Nat → Int64))) (z_61 : Int32 × (Nat → Int64)) => match z_61 with
        | (x7_22, w0_product_23) =>
        if x7_22 ≤ 0 then (
          gC (inb 0 13) (
          gC (inb 0 13) (
          gB (x6_15 + 1) (fun x6_27 =>
          k_42 (x3_21, x6_27, vp_updL w0_product_23 (0 : Int32).toNatClampNeg (((-x4_3).toInt64) * (w0_product_23 (0 : Int32).toNatClampNeg))))))
        ) else (
          gC (inb (x7_22 - 1) 13) (
          gC (inb x7_22 13) (
          gC (inb x7_22 13) (
          gB (x7_22 + (-1)) (fun x7_31 =>
          k_61 (x7_31, vp_updL w0_product_23 x7_22.toNatClampNeg ((w0_product_23 (x7_22 - 1).toNatClampNeg) - (x4_3.toInt64 * (w0_product_23 x7_22.toNatClampNeg))))))))
        )
        ) F (x3_21, w0_product_16))
      )
    )
    ) F (x3_2, 0, w0_product_4))
  )
  ) F (0, 0, vp_updL (fillA 13 (0 : Int64) w0_product) (0 : Int32).toNatClampNeg 1))
set_option maxHeartbeats 4000000 in
set_option maxRecDepth 100000 in
theorem c_Pol_addProduct (l : Launch) (dC : Nat → ClassId) (dI : Nat → Nat → Nat) (cI cJ cG cZ : ClassId) (a0 a0_near a0_nodes a0_factors a0_powers a0_product : Nat) (sz : Nat) (F : Nat) (v0_versionSeen : Int32) (w0_powers : Nat → Int64) (w0_product : Nat → Int64) (p1 : Int64) (o_w0_powers : Nat → Int64) (o_w0_product : Nat → Int64) (hm : m_Pol_addProduct F v0_versionSeen w0_powers w0_product p1 = some (o_w0_powers, o_w0_product)) : Met l y_Pol_addProduct us_Pol_addProduct rm_Pol_addProduct (PcS (dC, dI) (tyL cI cJ cG cZ) [.ref a0, .long p1] sz (wd_Pol_addProduct cI cJ cG cZ a0 a0_near a0_nodes a0_factors a0_powers a0_product v0_versionSeen w0_powers w0_product)) (va_Qv (fun (_ : Unit) => True) (fun _ t => PoS (dC, dI) (tyL cI cJ cG cZ) (wd_Pol_addProduct cI cJ cG cZ a0 a0_near a0_nodes a0_factors a0_powers a0_product v0_versionSeen o_w0_powers o_w0_product) (va_A (wd_Pol_addProduct cI cJ cG cZ a0 a0_near a0_nodes a0_factors a0_powers a0_product v0_versionSeen w0_powers w0_product) sz) t) (va_A (wd_Pol_addProduct cI cJ cG cZ a0 a0_near a0_nodes a0_factors a0_powers a0_product v0_versionSeen w0_powers w0_product) sz)) 0 0 (va_A (wd_Pol_addProduct cI cJ cG cZ a0 a0_near a0_nodes a0_factors a0_powers a0_product v0_versionSeen w0_powers w0_product) sz) := by
  refine Met.ofW (cc := prog_6_method_9_code) (maxL := 8) (ret := none) (by decide) rfl ?_
  intro p e s m args below meth c s₁ B hml hv
  obtain ⟨rfl, hsz, hP, hK, hD0, hNw⟩ := hv
  have hx := B.exec
  have hb := B.bytes
  have hr := B.returns
  have htt : ∀ w ∈ gtbl, w.before _ s = true := fun w h => atoms_spec (ws := us_Pol_addProduct) B.pre w (List.mem_cons_of_mem _ h)
  have hown : s.vm.findClass R_Pol = some m.cls := findClass_of_methodNamed B.named
  have hlocks := B.notSynchronized
  subst hsz
  have hD := hD0.self (sz := s.heap.size)
  generalize hAe : va_A (wd_Pol_addProduct cI cJ cG cZ a0 a0_near a0_nodes a0_factors a0_powers a0_product v0_versionSeen w0_powers w0_product) s.heap.size = A at hD ⊢
  have hA : ∀ q : Nat, s.heap.size ≤ q → A q := fun q h => by rw [← hAe]; exact Or.inr h
  clear hAe hD0
  have hS : va_S A s.heap s.heap [] := va_S.rf
  have hl := lv_entry ([.ref a0, .long p1]) (n := 8) (Nat.le_of_ble_eq_true rfl)
  rw [lg_entry_eq]
  generalize (lg_sl ([.ref a0, .long p1]) ++ List.replicate (8 - (lg_sl ([.ref a0, .long p1])).length) Slot.unset).toArray = ls at hl ⊢
  have hl : lv_has ls 8 [(0, .ref a0), (1, .long p1)] := hl
  generalize hH : s.heap = H at hP ⊢
  have hS : va_S A s.heap H [] := hH ▸ hS
  generalize hLo : ([] : List Loc) = locs at hS ⊢
  clear hH hLo
  unfold m_Pol_addProduct at hm
  refine lv_aload_n hx hb d_Pol_addProduct_0 rfl (lv_at hl 0 rfl) ?_
  refine va_get (D := (dC, dI)) (ci := 3) (v := .ref a0_product) (C := R_Pol) (T := T_Pol) (N := 6) hx hb htt hin_Pol hown hK hP 0 rfl rfl 4 (by decide) (htt _ kt_124) (fun _ h9 => h9) rfl d_Pol_addProduct_1 ?_
  refine lv_lconst (v := 0) hx hb d_Pol_addProduct_4 (by decide) ?_
  refine gx_filll hx hb hml hown htt kt_395 hK hNw hP hD hS hA 2 rfl (by decide) hl.1 (lv_room (Nat.le_of_ble_eq_true rfl)) (Nat.le_of_ble_eq_true rfl) (Nat.le_of_ble_eq_true rfl) (Nat.zero_le _) (Nat.zero_le _) d_Pol_addProduct_5 (fun H locs hP hD hS => ?_)
  have hP : va_P (dC, dI) vwCl (wd_Pol_addProduct cI cJ cG cZ a0 a0_near a0_nodes a0_factors a0_powers a0_product v0_versionSeen w0_powers (fillA 13 (0 : Int64) w0_product)) H := hP
  have hD : va_D A (wd_Pol_addProduct cI cJ cG cZ a0 a0_near a0_nodes a0_factors a0_powers a0_product v0_versionSeen w0_powers (fillA 13 (0 : Int64) w0_product)) := hD
  refine lv_aload_n hx hb d_Pol_addProduct_8 rfl (lv_at hl 0 rfl) ?_
  refine va_get (D := (dC, dI)) (ci := 3) (v := .ref a0_product) (C := R_Pol) (T := T_Pol) (N := 6) hx hb htt hin_Pol hown hK hP 0 rfl rfl 4 (by decide) (htt _ kt_124) (fun _ h9 => h9) rfl d_Pol_addProduct_9 ?_
  refine lv_iconst (v := 0) hx hb d_Pol_addProduct_12 (by decide) ?_
  refine lv_lconst (v := 1) hx hb d_Pol_addProduct_13 (by decide) ?_
  obtain ⟨hi_1, hm⟩ := gC_e hm
  refine va_last hx hb hK hP hD hS 2 1 rfl rfl (inb_vp hi_1) d_Pol_addProduct_14 (fun H locs hP hD hS => ?_)
  have hP : va_P (dC, dI) vwCl (wd_Pol_addProduct cI cJ cG cZ a0 a0_near a0_nodes a0_factors a0_powers a0_product v0_versionSeen w0_powers (vp_updL (fillA 13 (0 : Int64) w0_product) (0 : Int32).toNatClampNeg 1)) H := hP
  have hD : va_D A (wd_Pol_addProduct cI cJ cG cZ a0 a0_near a0_nodes a0_factors a0_powers a0_product v0_versionSeen w0_powers (vp_updL (fillA 13 (0 : Int64) w0_product) (0 : Int32).toNatClampNeg 1)) := hD
  refine lv_iconst (v := 0) hx hb d_Pol_addProduct_15 (by decide) ?_
  refine lv_istore_n (lv' := [(3, .int 0), (0, .ref a0), (1, .long p1)]) hx hb d_Pol_addProduct_16 rfl hl (by decide) rfl (fun ls hl => ?_)
  refine lv_iconst (v := 0) hx hb d_Pol_addProduct_17 (by decide) ?_
  refine lv_istore (lv' := [(4, .int 0), (3, .int 0), (0, .ref a0), (1, .long p1)]) hx hb d_Pol_addProduct_18 hl (by decide) rfl (fun ls hl => ?_)
  refine gL_e (P := (fun (z_20 : Int32 × Int32 × (Nat → Int64)) => ∀ (x3_2 : Int32), ∀ (x4_3 : Int32), ∀ (w0_product_4 : Nat → Int64), z_20 = (x3_2, x4_3, w0_product_4) → ∀ (ls : Array Slot) (H : Heap) (locs : List Loc), lv_has ls 8 [(0, .ref a0), (1, .long p1), (3, .int x3_2), (4, .int x4_3)] → va_P (dC, dI) vwCl (wd_Pol_addProduct cI cJ cG cZ a0 a0_near a0_nodes a0_factors a0_powers a0_product v0_versionSeen w0_powers w0_product_4) H → va_D A (wd_Pol_addProduct cI cJ cG cZ a0 a0_near a0_nodes a0_factors a0_powers a0_product v0_versionSeen w0_powers w0_product_4) → va_S A s.heap H locs → W p l e (headSpec us_Pol_addProduct rm_Pol_addProduct).room s m ([.ref a0, .long p1] : List Value).toArray below meth c H locs 0 0 (MQ below (va_Qv (fun (_ : Unit) => True) (fun _ t => PoS (dC, dI) (tyL cI cJ cG cZ) (wd_Pol_addProduct cI cJ cG cZ a0 a0_near a0_nodes a0_factors a0_powers a0_product v0_versionSeen o_w0_powers o_w0_product) A t) A) ([.ref a0, .long p1] : List Value).toArray s 0 0 A) (F0 m 20 ls []))) hm (fun k_20 z_20 ih_20 hm => ?_) _ _ _ rfl ls H locs (lv_sub hl [2, 3, 1, 0] rfl) hP hD hS
  intro x3_2 x4_3 w0_product_4 hz ls H locs hl hP hD hS
  subst hz
  dsimp only at hm
  refine lv_iload hx hb d_Pol_addProduct_20 (lv_at hl 3 rfl) ?_
  refine lv_bipush (v := 12) hx hb d_Pol_addProduct_22 (by decide) ?_
  refine lv_icmp_ge (tgt := 129) hx hb d_Pol_addProduct_24 (by decide) (fun c_5 => ?_) (fun c_5 => ?_)
  · have hm := ite_t c_5 hm
    refine lv_iconst (v := 0) hx hb d_Pol_addProduct_129 (by decide) ?_
    refine lv_istore (lv' := [(4, .int 0), (0, .ref a0), (1, .long p1), (3, .int x3_2)]) hx hb d_Pol_addProduct_130 hl (by decide) rfl (fun ls hl => ?_)
    refine gL_e (P := (fun (z_132 : Int32 × (Nat → Int64)) => ∀ (x4_6 : Int32), ∀ (w0_powers_7 : Nat → Int64), z_132 = (x4_6, w0_powers_7) → ∀ (ls : Array Slot) (H : Heap) (locs : List Loc), lv_has ls 8 [(0, .ref a0), (3, .int x3_2), (4, .int x4_6)] → va_P (dC, dI) vwCl (wd_Pol_addProduct cI cJ cG cZ a0 a0_near a0_nodes a0_factors a0_powers a0_product v0_versionSeen w0_powers_7 w0_product_4) H → va_D A (wd_Pol_addProduct cI cJ cG cZ a0 a0_near a0_nodes a0_factors a0_powers a0_product v0_versionSeen w0_powers_7 w0_product_4) → va_S A s.heap H locs → W p l e (headSpec us_Pol_addProduct rm_Pol_addProduct).room s m ([.ref a0, .long p1] : List Value).toArray below meth c H locs 0 0 (MQ below (va_Qv (fun (_ : Unit) => True) (fun _ t => PoS (dC, dI) (tyL cI cJ cG cZ) (wd_Pol_addProduct cI cJ cG cZ a0 a0_near a0_nodes a0_factors a0_powers a0_product v0_versionSeen o_w0_powers o_w0_product) A t) A) ([.ref a0, .long p1] : List Value).toArray s 0 0 A) (F0 m 132 ls []))) hm (fun k_132 z_132 ih_132 hm => ?_) _ _ rfl ls H locs (lv_sub hl [1, 3, 0] rfl) hP hD hS
    intro x4_6 w0_powers_7 hz ls H locs hl hP hD hS
    subst hz
    dsimp only at hm
    refine lv_iload hx hb d_Pol_addProduct_132 (lv_at hl 2 rfl) ?_
    refine lv_iload_n hx hb d_Pol_addProduct_134 rfl (lv_at hl 1 rfl) ?_
    refine lv_icmp_gt (tgt := 161) hx hb d_Pol_addProduct_135 (by decide) (fun c_8 => ?_) (fun c_8 => ?_)
    · have hm := ite_t c_8 hm
      cases hm
      exact W.vret hx hb hr (fun t ht hW => ⟨⟨(), rfl, trivial, by rw [ht]; exact hP, va_K.moved hW.alike hK, hD⟩, hS.F ht⟩) hS.2.2 d_Pol_addProduct_161
    · have hm := ite_f c_8 hm
      refine lv_aload_n hx hb d_Pol_addProduct_138 rfl (lv_at hl 0 rfl) ?_
      refine va_get (D := (dC, dI)) (ci := 3) (v := .ref a0_powers) (C := R_Pol) (T := T_Pol) (N := 6) hx hb htt hin_Pol hown hK hP 0 rfl rfl 3 (by decide) (htt _ kt_123) (fun _ h9 => h9) rfl d_Pol_addProduct_139 ?_
      refine lv_iload hx hb d_Pol_addProduct_142 (lv_at hl 2 rfl) ?_
      refine lv_dup2_11 hx hb d_Pol_addProduct_144 rfl rfl ?_
      obtain ⟨hi_9, hm⟩ := gC_e hm
      refine va_lald hx hb hK hP 1 1 rfl rfl (inb_vp hi_9) d_Pol_addProduct_145 ?_
      refine lv_aload_n hx hb d_Pol_addProduct_146 rfl (lv_at hl 0 rfl) ?_
      refine va_get (D := (dC, dI)) (ci := 3) (v := .ref a0_product) (C := R_Pol) (T := T_Pol) (N := 6) hx hb htt hin_Pol hown hK hP 0 rfl rfl 4 (by decide) (htt _ kt_124) (fun _ h9 => h9) rfl d_Pol_addProduct_147 ?_
      refine lv_iload hx hb d_Pol_addProduct_150 (lv_at hl 2 rfl) ?_
      obtain ⟨hi_10, hm⟩ := gC_e hm
      refine va_lald hx hb hK hP 2 1 rfl rfl (inb_vp hi_10) d_Pol_addProduct_152 ?_
      refine lv_ladd hx hb d_Pol_addProduct_153 ?_
      obtain ⟨hi_11, hm⟩ := gC_e hm
      refine va_last hx hb hK hP hD hS 1 1 rfl rfl (inb_vp hi_11) d_Pol_addProduct_154 (fun H locs hP hD hS => ?_)
      have hP : va_P (dC, dI) vwCl (wd_Pol_addProduct cI cJ cG cZ a0 a0_near a0_nodes a0_factors a0_powers a0_product v0_versionSeen (vp_updL w0_powers_7 x4_6.toNatClampNeg ((w0_powers_7 x4_6.toNatClampNeg) + (w0_product_4 x4_6.toNatClampNeg))) w0_product_4) H := hP
      have hD : va_D A (wd_Pol_addProduct cI cJ cG cZ a0 a0_near a0_nodes a0_factors a0_powers a0_product v0_versionSeen (vp_updL w0_powers_7 x4_6.toNatClampNeg ((w0_powers_7 x4_6.toNatClampNeg) + (w0_product_4 x4_6.toNatClampNeg))) w0_product_4) := hD
      obtain ⟨x4_12, ex4_12⟩ : ∃ y : Int32, y = x4_6 + 1 := ⟨_, rfl⟩
      have hm := gB_at ex4_12 hm
      refine lv_iinc (v := x4_12) (lv' := [(4, .int x4_12), (0, .ref a0), (3, .int x3_2)]) hx hb d_Pol_addProduct_155 hl (k := 2) rfl (by rw [ex4_12]; rfl) (by decide) rfl (fun ls hl => ?_)
      refine lv_goto (tgt := 132) hx hb d_Pol_addProduct_158 (by decide) ?_
      exact ih_132 _ hm _ _ rfl ls H locs (lv_sub hl [1, 2, 0] rfl) hP hD hS
  · have hm := ite_f c_5 hm
    refine lv_lload_n hx hb d_Pol_addProduct_27 rfl (lv_at hl 1 rfl) ?_
    refine lv_iload hx hb d_Pol_addProduct_28 (lv_at hl 3 rfl) ?_
    refine lv_iconst (v := 4) hx hb d_Pol_addProduct_30 (by decide) ?_
    refine lv_imul hx hb d_Pol_addProduct_31 ?_
    refine lv_lshr hx hb d_Pol_addProduct_32 rfl ?_
    refine lv_l2i hx hb d_Pol_addProduct_33 rfl ?_
    refine lv_bipush (v := 15) hx hb d_Pol_addProduct_34 (by decide) ?_
    refine lv_iand hx hb d_Pol_addProduct_36 ?_
    refine lv_topi (fun x5_13 ex5_13 => ?_)
    have hm := gB_at ex5_13 hm
    refine lv_istore (lv' := [(5, .int x5_13), (0, .ref a0), (1, .long p1), (3, .int x3_2), (4, .int x4_3)]) hx hb d_Pol_addProduct_37 hl (by decide) rfl (fun ls hl => ?_)
    refine lv_iconst (v := 0) hx hb d_Pol_addProduct_39 (by decide) ?_
    refine lv_istore (lv' := [(6, .int 0), (5, .int x5_13), (0, .ref a0), (1, .long p1), (3, .int x3_2), (4, .int x4_3)]) hx hb d_Pol_addProduct_40 hl (by decide) rfl (fun ls hl => ?_)
    refine gL_e (P := (fun (z_42 : Int32 × Int32 × (Nat → Int64)) => ∀ (x3_14 : Int32), ∀ (x6_15 : Int32), ∀ (w0_product_16 : Nat → Int64), z_42 = (x3_14, x6_15, w0_product_16) → ∀ (ls : Array Slot) (H : Heap) (locs : List Loc), lv_has ls 8 [(0, .ref a0), (1, .long p1), (3, .int x3_14), (4, .int x4_3), (5, .int x5_13), (6, .int x6_15)] → va_P (dC, dI) vwCl (wd_Pol_addProduct cI cJ cG cZ a0 a0_near a0_nodes a0_factors a0_powers a0_product v0_versionSeen w0_powers w0_product_16) H → va_D A (wd_Pol_addProduct cI cJ cG cZ a0 a0_near a0_nodes a0_factors a0_powers a0_product v0_versionSeen w0_powers w0_product_16) → va_S A s.heap H locs → W p l e (headSpec us_Pol_addProduct rm_Pol_addProduct).room s m ([.ref a0, .long p1] : List Value).toArray below meth c H locs 0 0 (MQ below (va_Qv (fun (_ : Unit) => True) (fun _ t => PoS (dC, dI) (tyL cI cJ cG cZ) (wd_Pol_addProduct cI cJ cG cZ a0 a0_near a0_nodes a0_factors a0_powers a0_product v0_versionSeen o_w0_powers o_w0_product) A t) A) ([.ref a0, .long p1] : List Value).toArray s 0 0 A) (F0 m 42 ls []))) hm (fun k_42 z_42 ih_42 hm => ?_) _ _ _ rfl ls H locs (lv_sub hl [2, 3, 4, 5, 1, 0] rfl) hP hD hS
    intro x3_14 x6_15 w0_product_16 hz ls H locs hl hP hD hS
    subst hz
    dsimp only at hm
    refine lv_iload hx hb d_Pol_addProduct_42 (lv_at hl 5 rfl) ?_
    refine lv_iload hx hb d_Pol_addProduct_44 (lv_at hl 4 rfl) ?_
    refine lv_icmp_ge (tgt := 123) hx hb d_Pol_addProduct_46 (by decide) (fun c_17 => ?_) (fun c_17 => ?_)
    · have hm := ite_t c_17 hm
      obtain ⟨x4_18, ex4_18⟩ : ∃ y : Int32, y = x4_3 + 1 := ⟨_, rfl⟩
      have hm := gB_at ex4_18 hm
      refine lv_iinc (v := x4_18) (lv' := [(4, .int x4_18), (0, .ref a0), (1, .long p1), (3, .int x3_14), (5, .int x5_13), (6, .int x6_15)]) hx hb d_Pol_addProduct_123 hl (k := 3) rfl (by rw [ex4_18]; rfl) (by decide) rfl (fun ls hl => ?_)
      refine lv_goto (tgt := 20) hx hb d_Pol_addProduct_126 (by decide) ?_
      exact ih_20 _ hm _ _ _ rfl ls H locs (lv_sub hl [1, 2, 3, 0] rfl) hP hD hS
    · have hm := ite_f c_17 hm
      refine lv_iload_n hx hb d_Pol_addProduct_49 rfl (lv_at hl 2 rfl) ?_
      refine lv_bipush (v := 12) hx hb d_Pol_addProduct_50 (by decide) ?_
      refine lv_icmp_ge (tgt := 123) hx hb d_Pol_addProduct_52 (by decide) (fun c_19 => ?_) (fun c_19 => ?_)
      · have hm := ite_t c_19 hm
        obtain ⟨x4_20, ex4_20⟩ : ∃ y : Int32, y = x4_3 + 1 := ⟨_, rfl⟩
        have hm := gB_at ex4_20 hm
        refine lv_iinc (v := x4_20) (lv' := [(4, .int x4_20), (0, .ref a0), (1, .long p1), (3, .int x3_14), (5, .int x5_13), (6, .int x6_15)]) hx hb d_Pol_addProduct_123 hl (k := 3) rfl (by rw [ex4_20]; rfl) (by decide) rfl (fun ls hl => ?_)
        refine lv_goto (tgt := 20) hx hb d_Pol_addProduct_126 (by decide) ?_
        exact ih_20 _ hm _ _ _ rfl ls H locs (lv_sub hl [1, 2, 3, 0] rfl) hP hD hS
      · have hm := ite_f c_19 hm
        obtain ⟨x3_21, ex3_21⟩ : ∃ y : Int32, y = x3_14 + 1 := ⟨_, rfl⟩
        have hm := gB_at ex3_21 hm
        refine lv_iinc (v := x3_21) (lv' := [(3, .int x3_21), (0, .ref a0), (1, .long p1), (4, .int x4_3), (5, .int x5_13), (6, .int x6_15)]) hx hb d_Pol_addProduct_55 hl (k := 2) rfl (by rw [ex3_21]; rfl) (by decide) rfl (fun ls hl => ?_)
        refine lv_iload_n hx hb d_Pol_addProduct_58 rfl (lv_at hl 0 rfl) ?_
        refine lv_istore (lv' := [(7, .int x3_21), (3, .int x3_21), (0, .ref a0), (1, .long p1), (4, .int x4_3), (5, .int x5_13), (6, .int x6_15)]) hx hb d_Pol_addProduct_59 hl (by decide) rfl (fun ls hl => ?_)
        refine gL_e (P := (fun (z_61 : Int32 × (Nat → Int64)) => ∀ (x7_22 : Int32), ∀ (w0_product_23 : Nat → Int64), z_61 = (x7_22, w0_product_23) → ∀ (ls : Array Slot) (H : Heap) (locs : List Loc), lv_has ls 8 [(0, .ref a0), (1, .long p1), (3, .int x3_21), (4, .int x4_3), (5, .int x5_13), (6, .int x6_15), (7, .int x7_22)] → va_P (dC, dI) vwCl (wd_Pol_addProduct cI cJ cG cZ a0 a0_near a0_nodes a0_factors a0_powers a0_product v0_versionSeen w0_powers w0_product_23) H → va_D A (wd_Pol_addProduct cI cJ cG cZ a0 a0_near a0_nodes a0_factors a0_powers a0_product v0_versionSeen w0_powers w0_product_23) → va_S A s.heap H locs → W p l e (headSpec us_Pol_addProduct rm_Pol_addProduct).room s m ([.ref a0, .long p1] : List Value).toArray below meth c H locs 0 0 (MQ below (va_Qv (fun (_ : Unit) => True) (fun _ t => PoS (dC, dI) (tyL cI cJ cG cZ) (wd_Pol_addProduct cI cJ cG cZ a0 a0_near a0_nodes a0_factors a0_powers a0_product v0_versionSeen o_w0_powers o_w0_product) A t) A) ([.ref a0, .long p1] : List Value).toArray s 0 0 A) (F0 m 61 ls []))) hm (fun k_61 z_61 ih_61 hm => ?_) _ _ rfl ls H locs (lv_sub hl [2, 3, 1, 4, 5, 6, 0] rfl) hP hD hS
        intro x7_22 w0_product_23 hz ls H locs hl hP hD hS
        subst hz
        dsimp only at hm
        refine lv_iload hx hb d_Pol_addProduct_61 (lv_at hl 6 rfl) ?_
        refine lv_if_le (tgt := 100) hx hb d_Pol_addProduct_63 (by decide) (fun c_24 => ?_) (fun c_24 => ?_)
        · have hm := ite_t c_24 hm
          refine lv_aload_n hx hb d_Pol_addProduct_100 rfl (lv_at hl 0 rfl) ?_
          refine va_get (D := (dC, dI)) (ci := 3) (v := .ref a0_product) (C := R_Pol) (T := T_Pol) (N := 6) hx hb htt hin_Pol hown hK hP 0 rfl rfl 4 (by decide) (htt _ kt_124) (fun _ h9 => h9) rfl d_Pol_addProduct_101 ?_
          refine lv_iconst (v := 0) hx hb d_Pol_addProduct_104 (by decide) ?_
          refine lv_iload hx hb d_Pol_addProduct_105 (lv_at hl 3 rfl) ?_
          refine lv_ineg hx hb d_Pol_addProduct_107 ?_
          refine lv_i2l hx hb d_Pol_addProduct_108 rfl ?_
          refine lv_aload_n hx hb d_Pol_addProduct_109 rfl (lv_at hl 0 rfl) ?_
          refine va_get (D := (dC, dI)) (ci := 3) (v := .ref a0_product) (C := R_Pol) (T := T_Pol) (N := 6) hx hb htt hin_Pol hown hK hP 0 rfl rfl 4 (by decide) (htt _ kt_124) (fun _ h9 => h9) rfl d_Pol_addProduct_110 ?_
          refine lv_iconst (v := 0) hx hb d_Pol_addProduct_113 (by decide) ?_
          obtain ⟨hi_25, hm⟩ := gC_e hm
          refine va_lald hx hb hK hP 2 1 rfl rfl (inb_vp hi_25) d_Pol_addProduct_114 ?_
          refine lv_lmul hx hb d_Pol_addProduct_115 ?_
          obtain ⟨hi_26, hm⟩ := gC_e hm
          refine va_last hx hb hK hP hD hS 2 1 rfl rfl (inb_vp hi_26) d_Pol_addProduct_116 (fun H locs hP hD hS => ?_)
          have hP : va_P (dC, dI) vwCl (wd_Pol_addProduct cI cJ cG cZ a0 a0_near a0_nodes a0_factors a0_powers a0_product v0_versionSeen w0_powers (vp_updL w0_product_23 (0 : Int32).toNatClampNeg (((-x4_3).toInt64) * (w0_product_23 (0 : Int32).toNatClampNeg)))) H := hP
          have hD : va_D A (wd_Pol_addProduct cI cJ cG cZ a0 a0_near a0_nodes a0_factors a0_powers a0_product v0_versionSeen w0_powers (vp_updL w0_product_23 (0 : Int32).toNatClampNeg (((-x4_3).toInt64) * (w0_product_23 (0 : Int32).toNatClampNeg)))) := hD
          obtain ⟨x6_27, ex6_27⟩ : ∃ y : Int32, y = x6_15 + 1 := ⟨_, rfl⟩
          have hm := gB_at ex6_27 hm
          refine lv_iinc (v := x6_27) (lv' := [(6, .int x6_27), (0, .ref a0), (1, .long p1), (3, .int x3_21), (4, .int x4_3), (5, .int x5_13), (7, .int x7_22)]) hx hb d_Pol_addProduct_117 hl (k := 5) rfl (by rw [ex6_27]; rfl) (by decide) rfl (fun ls hl => ?_)
          refine lv_goto (tgt := 42) hx hb d_Pol_addProduct_120 (by decide) ?_
          exact ih_42 _ hm _ _ _ rfl ls H locs (lv_sub hl [1, 2, 3, 4, 5, 0] rfl) hP hD hS
        · have hm := ite_f c_24 hm
          refine lv_aload_n hx hb d_Pol_addProduct_66 rfl (lv_at hl 0 rfl) ?_
          refine va_get (D := (dC, dI)) (ci := 3) (v := .ref a0_product) (C := R_Pol) (T := T_Pol) (N := 6) hx hb htt hin_Pol hown hK hP 0 rfl rfl 4 (by decide) (htt _ kt_124) (fun _ h9 => h9) rfl d_Pol_addProduct_67 ?_
          refine lv_iload hx hb d_Pol_addProduct_70 (lv_at hl 6 rfl) ?_
          refine lv_aload_n hx hb d_Pol_addProduct_72 rfl (lv_at hl 0 rfl) ?_
          refine va_get (D := (dC, dI)) (ci := 3) (v := .ref a0_product) (C := R_Pol) (T := T_Pol) (N := 6) hx hb htt hin_Pol hown hK hP 0 rfl rfl 4 (by decide) (htt _ kt_124) (fun _ h9 => h9) rfl d_Pol_addProduct_73 ?_
          refine lv_iload hx hb d_Pol_addProduct_76 (lv_at hl 6 rfl) ?_
          refine lv_iconst (v := 1) hx hb d_Pol_addProduct_78 (by decide) ?_
          refine lv_isub hx hb d_Pol_addProduct_79 ?_
          obtain ⟨hi_28, hm⟩ := gC_e hm
          refine va_lald hx hb hK hP 2 1 rfl rfl (inb_vp hi_28) d_Pol_addProduct_80 ?_
          refine lv_iload hx hb d_Pol_addProduct_81 (lv_at hl 3 rfl) ?_
          refine lv_i2l hx hb d_Pol_addProduct_83 rfl ?_
          refine lv_aload_n hx hb d_Pol_addProduct_84 rfl (lv_at hl 0 rfl) ?_
          refine va_get (D := (dC, dI)) (ci := 3) (v := .ref a0_product) (C := R_Pol) (T := T_Pol) (N := 6) hx hb htt hin_Pol hown hK hP 0 rfl rfl 4 (by decide) (htt _ kt_124) (fun _ h9 => h9) rfl d_Pol_addProduct_85 ?_
          refine lv_iload hx hb d_Pol_addProduct_88 (lv_at hl 6 rfl) ?_
          obtain ⟨hi_29, hm⟩ := gC_e hm
          refine va_lald hx hb hK hP 2 1 rfl rfl (inb_vp hi_29) d_Pol_addProduct_90 ?_
          refine lv_lmul hx hb d_Pol_addProduct_91 ?_
          refine lv_lsub hx hb d_Pol_addProduct_92 ?_
          obtain ⟨hi_30, hm⟩ := gC_e hm
          refine va_last hx hb hK hP hD hS 2 1 rfl rfl (inb_vp hi_30) d_Pol_addProduct_93 (fun H locs hP hD hS => ?_)
          have hP : va_P (dC, dI) vwCl (wd_Pol_addProduct cI cJ cG cZ a0 a0_near a0_nodes a0_factors a0_powers a0_product v0_versionSeen w0_powers (vp_updL w0_product_23 x7_22.toNatClampNeg ((w0_product_23 (x7_22 - 1).toNatClampNeg) - (x4_3.toInt64 * (w0_product_23 x7_22.toNatClampNeg))))) H := hP
          have hD : va_D A (wd_Pol_addProduct cI cJ cG cZ a0 a0_near a0_nodes a0_factors a0_powers a0_product v0_versionSeen w0_powers (vp_updL w0_product_23 x7_22.toNatClampNeg ((w0_product_23 (x7_22 - 1).toNatClampNeg) - (x4_3.toInt64 * (w0_product_23 x7_22.toNatClampNeg))))) := hD
          obtain ⟨x7_31, ex7_31⟩ : ∃ y : Int32, y = x7_22 + (-1) := ⟨_, rfl⟩
          have hm := gB_at ex7_31 hm
          refine lv_iinc (v := x7_31) (lv' := [(7, .int x7_31), (0, .ref a0), (1, .long p1), (3, .int x3_21), (4, .int x4_3), (5, .int x5_13), (6, .int x6_15)]) hx hb d_Pol_addProduct_94 hl (k := 6) rfl (by rw [ex7_31]; rfl) (by decide) rfl (fun ls hl => ?_)
          refine lv_goto (tgt := 61) hx hb d_Pol_addProduct_97 (by decide) ?_
          exact ih_61 _ hm _ _ rfl ls H locs (lv_sub hl [1, 2, 3, 4, 5, 6, 0] rfl) hP hD hS
