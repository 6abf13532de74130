theorem d_Int_bitCount_0 : decode prog_13_method_49_code 0 = .ok (.iload_n 0, 1) := by decide +kernel
theorem d_Int_bitCount_1 : decode prog_13_method_49_code 1 = .ok (.iload_n 0, 1) := by decide +kernel
theorem d_Int_bitCount_2 : decode prog_13_method_49_code 2 = .ok (.iconst 1, 1) := by decide +kernel
theorem d_Int_bitCount_3 : decode prog_13_method_49_code 3 = .ok (.iushr, 1) := by decide +kernel
theorem d_Int_bitCount_4 : decode prog_13_method_49_code 4 = .ok (.ldc_w 265, 3) := by decide +kernel
theorem d_Int_bitCount_7 : decode prog_13_method_49_code 7 = .ok (.iand, 1) := by decide +kernel
theorem d_Int_bitCount_8 : decode prog_13_method_49_code 8 = .ok (.isub, 1) := by decide +kernel
theorem d_Int_bitCount_9 : decode prog_13_method_49_code 9 = .ok (.istore_n 0, 1) := by decide +kernel
theorem d_Int_bitCount_10 : decode prog_13_method_49_code 10 = .ok (.iload_n 0, 1) := by decide +kernel
theorem d_Int_bitCount_11 : decode prog_13_method_49_code 11 = .ok (.ldc_w 266, 3) := by decide +kernel
theorem d_Int_bitCount_14 : decode prog_13_method_49_code 14 = .ok (.iand, 1) := by decide +kernel
theorem d_Int_bitCount_15 : decode prog_13_method_49_code 15 = .ok (.iload_n 0, 1) := by decide +kernel
theorem d_Int_bitCount_16 : decode prog_13_method_49_code 16 = .ok (.iconst 2, 1) := by decide +kernel
theorem d_Int_bitCount_17 : decode prog_13_method_49_code 17 = .ok (.iushr, 1) := by decide +kernel
theorem d_Int_bitCount_18 : decode prog_13_method_49_code 18 = .ok (.ldc_w 266, 3) := by decide +kernel
theorem d_Int_bitCount_21 : decode prog_13_method_49_code 21 = .ok (.iand, 1) := by decide +kernel
theorem d_Int_bitCount_22 : decode prog_13_method_49_code 22 = .ok (.iadd, 1) := by decide +kernel
theorem d_Int_bitCount_23 : decode prog_13_method_49_code 23 = .ok (.istore_n 0, 1) := by decide +kernel
theorem d_Int_bitCount_24 : decode prog_13_method_49_code 24 = .ok (.iload_n 0, 1) := by decide +kernel
theorem d_Int_bitCount_25 : decode prog_13_method_49_code 25 = .ok (.iload_n 0, 1) := by decide +kernel
theorem d_Int_bitCount_26 : decode prog_13_method_49_code 26 = .ok (.iconst 4, 1) := by decide +kernel
theorem d_Int_bitCount_27 : decode prog_13_method_49_code 27 = .ok (.iushr, 1) := by decide +kernel
theorem d_Int_bitCount_28 : decode prog_13_method_49_code 28 = .ok (.iadd, 1) := by decide +kernel
theorem d_Int_bitCount_29 : decode prog_13_method_49_code 29 = .ok (.ldc_w 267, 3) := by decide +kernel
theorem d_Int_bitCount_32 : decode prog_13_method_49_code 32 = .ok (.iand, 1) := by decide +kernel
theorem d_Int_bitCount_33 : decode prog_13_method_49_code 33 = .ok (.istore_n 0, 1) := by decide +kernel
theorem d_Int_bitCount_34 : decode prog_13_method_49_code 34 = .ok (.iload_n 0, 1) := by decide +kernel
theorem d_Int_bitCount_35 : decode prog_13_method_49_code 35 = .ok (.iload_n 0, 1) := by decide +kernel
theorem d_Int_bitCount_36 : decode prog_13_method_49_code 36 = .ok (.bipush 8, 2) := by decide +kernel
theorem d_Int_bitCount_38 : decode prog_13_method_49_code 38 = .ok (.iushr, 1) := by decide +kernel
theorem d_Int_bitCount_39 : decode prog_13_method_49_code 39 = .ok (.iadd, 1) := by decide +kernel
theorem d_Int_bitCount_40 : decode prog_13_method_49_code 40 = .ok (.istore_n 0, 1) := by decide +kernel
theorem d_Int_bitCount_41 : decode prog_13_method_49_code 41 = .ok (.iload_n 0, 1) := by decide +kernel
theorem d_Int_bitCount_42 : decode prog_13_method_49_code 42 = .ok (.iload_n 0, 1) := by decide +kernel
theorem d_Int_bitCount_43 : decode prog_13_method_49_code 43 = .ok (.bipush 16, 2) := by decide +kernel
theorem d_Int_bitCount_45 : decode prog_13_method_49_code 45 = .ok (.iushr, 1) := by decide +kernel
theorem d_Int_bitCount_46 : decode prog_13_method_49_code 46 = .ok (.iadd, 1) := by decide +kernel
theorem d_Int_bitCount_47 : decode prog_13_method_49_code 47 = .ok (.istore_n 0, 1) := by decide +kernel
theorem d_Int_bitCount_48 : decode prog_13_method_49_code 48 = .ok (.iload_n 0, 1) := by decide +kernel
theorem d_Int_bitCount_49 : decode prog_13_method_49_code 49 = .ok (.bipush 63, 2) := by decide +kernel
theorem d_Int_bitCount_51 : decode prog_13_method_49_code 51 = .ok (.iand, 1) := by decide +kernel
theorem d_Int_bitCount_52 : decode prog_13_method_49_code 52 = .ok (.ireturn, 1) := by decide +kernel
abbrev wd_Int_bitCount (cI cJ cG cZ : ClassId) : va_W := []
abbrev us_Int_bitCount : List Cond := .code y_Int_bitCount prog_13_method_49_code 1 (some .int) :: gtbl
abbrev rm_Int_bitCount : Room := { frames := 0, cells := 0, slots := 0, locals := 0 }
def m_Int_bitCount (F : Nat) (p0 : Int32) : Option (Int32) :=
  gB (p0 - (((p0.toUInt32 >>> ((1 : Int32).toUInt32 &&& Int32.toUInt32 31)).toInt32) &&& 1431655765)) (fun x0_1 =>
  gB ((x0_1 &&& 858993459) + (((x0_1.toUInt32 >>> ((2 : Int32).toUInt32 &&& Int32.toUInt32 31)).toInt32) &&& 858993459)) (fun x0_2 =>
  gB ((x0_2 + ((x0_2.toUInt32 >>> ((4 : Int32).toUInt32 &&& Int32.toUInt32 31)).toInt32)) &&& 252645135) (fun x0_3 =>
  gB (x0_3 + ((x0_3.toUInt32 >>> ((8 : Int32).toUInt32 &&& Int32.toUInt32 31)).toInt32)) (fun x0_4 =>
  gB (x0_4 + ((x0_4.toUInt32 >>> ((16 : Int32).toUInt32 &&& Int32.toUInt32 31)).toInt32)) (fun x0_5 =>
  some (x0_5 &&& 63))))))
set_option maxHeartbeats 4000000 in
set_option maxRecDepth 100000 in
theorem c_Int_bitCount (l : Launch) (dC : Nat → ClassId) (dI : Nat → Nat → Nat) (cI cJ cG cZ : ClassId) (sz : Nat) (F : Nat) (p0 : Int32) (ret : Int32) (hm : m_Int_bitCount F p0 = some ret) : Met l y_Int_bitCount us_Int_bitCount rm_Int_bitCount (PcS (dC, dI) (tyL cI cJ cG cZ) [.int p0] sz (wd_Int_bitCount cI cJ cG cZ)) (va_Qi (fun (r : Int32) (_ : Unit) => ret = r) (fun _ t => PoS (dC, dI) (tyL cI cJ cG cZ) (wd_Int_bitCount cI cJ cG cZ) (va_A (wd_Int_bitCount cI cJ cG cZ) sz) t) (va_A (wd_Int_bitCount cI cJ cG cZ) sz)) 0 0 (va_A (wd_Int_bitCount cI cJ cG cZ) sz) := by
  refine Met.ofW (cc := prog_13_method_49_code) (maxL := 1) (ret := (some .int)) (by decide) rfl ?_
  intro p e s m args below meth c s₁ B hml hv
  obtain ⟨rfl, hsz, hP, hK, hD0, hNw⟩ := hv
  have hx := B.exec
  have hb := B.bytes
  have hr := B.returns
  have htt : ∀ w ∈ gtbl, w.before _ s = true := fun w h => atoms_spec (ws := us_Int_bitCount) B.pre w (List.mem_cons_of_mem _ h)
  have hown : s.vm.findClass R_Int = some m.cls := findClass_of_methodNamed B.named
  have hlocks := B.notSynchronized
  subst hsz
  have hD := hD0.self (sz := s.heap.size)
  generalize hAe : va_A (wd_Int_bitCount cI cJ cG cZ) s.heap.size = A at hD ⊢
  have hA : ∀ q : Nat, s.heap.size ≤ q → A q := fun q h => by rw [← hAe]; exact Or.inr h
  clear hAe hD0
  have hS : va_S A s.heap s.heap [] := va_S.rf
  have hl := lv_entry ([.int p0]) (n := 1) (Nat.le_of_ble_eq_true rfl)
  rw [lg_entry_eq]
  generalize (lg_sl ([.int p0]) ++ List.replicate (1 - (lg_sl ([.int p0])).length) Slot.unset).toArray = ls at hl ⊢
  have hl : lv_has ls 1 [(0, .int p0)] := hl
  generalize hH : s.heap = H at hP ⊢
  have hS : va_S A s.heap H [] := hH ▸ hS
  generalize hLo : ([] : List Loc) = locs at hS ⊢
  clear hH hLo
  unfold m_Int_bitCount at hm
  refine lv_iload_n hx hb d_Int_bitCount_0 rfl (lv_at hl 0 rfl) ?_
  refine lv_iload_n hx hb d_Int_bitCount_1 rfl (lv_at hl 0 rfl) ?_
  refine lv_iconst (v := 1) hx hb d_Int_bitCount_2 (by decide) ?_
  refine lv_iushr hx hb d_Int_bitCount_3 rfl ?_
  refine lv_ldcw (own := R_Int) (v := 1431655765) hx hb hown (htt _ kt_325) d_Int_bitCount_4 ?_
  refine lv_iand hx hb d_Int_bitCount_7 ?_
  refine lv_isub hx hb d_Int_bitCount_8 ?_
  refine lv_topi (fun x0_1 ex0_1 => ?_)
  have hm := gB_at ex0_1 hm
  refine lv_istore_n (lv' := [(0, .int x0_1)]) hx hb d_Int_bitCount_9 rfl hl (by decide) rfl (fun ls hl => ?_)
  refine lv_iload_n hx hb d_Int_bitCount_10 rfl (lv_at hl 0 rfl) ?_
  refine lv_ldcw (own := R_Int) (v := 858993459) hx hb hown (htt _ kt_326) d_Int_bitCount_11 ?_
  refine lv_iand hx hb d_Int_bitCount_14 ?_
  refine lv_iload_n hx hb d_Int_bitCount_15 rfl (lv_at hl 0 rfl) ?_
  refine lv_iconst (v := 2) hx hb d_Int_bitCount_16 (by decide) ?_
  refine lv_iushr hx hb d_Int_bitCount_17 rfl ?_
  refine lv_ldcw (own := R_Int) (v := 858993459) hx hb hown (htt _ kt_326) d_Int_bitCount_18 ?_
  refine lv_iand hx hb d_Int_bitCount_21 ?_
  refine lv_iadd hx hb d_Int_bitCount_22 ?_
  refine lv_topi (fun x0_2 ex0_2 => ?_)
  have hm := gB_at ex0_2 hm
  refine lv_istore_n (lv' := [(0, .int x0_2)]) hx hb d_Int_bitCount_23 rfl hl (by decide) rfl (fun ls hl => ?_)
  refine lv_iload_n hx hb d_Int_bitCount_24 rfl (lv_at hl 0 rfl) ?_
  refine lv_iload_n hx hb d_Int_bitCount_25 rfl (lv_at hl 0 rfl) ?_
  refine lv_iconst (v := 4) hx hb d_Int_bitCount_26 (by decide) ?_
  refine lv_iushr hx hb d_Int_bitCount_27 rfl ?_
  refine lv_iadd hx hb d_Int_bitCount_28 ?_
  refine lv_ldcw (own := R_Int) (v := 252645135) hx hb hown (htt _ kt_327) d_Int_bitCount_29 ?_
  refine lv_iand hx hb d_Int_bitCount_32 ?_
  refine lv_topi (fun x0_3 ex0_3 => ?_)
  have hm := gB_at ex0_3 hm
  refine lv_istore_n (lv' := [(0, .int x0_3)]) hx hb d_Int_bitCount_33 rfl hl (by decide) rfl (fun ls hl => ?_)
  refine lv_iload_n hx hb d_Int_bitCount_34 rfl (lv_at hl 0 rfl) ?_
  refine lv_iload_n hx hb d_Int_bitCount_35 rfl (lv_at hl 0 rfl) ?_
  refine lv_bipush (v := 8) hx hb d_Int_bitCount_36 (by decide) ?_
  refine lv_iushr hx hb d_Int_bitCount_38 rfl ?_
  refine lv_iadd hx hb d_Int_bitCount_39 ?_
  refine lv_topi (fun x0_4 ex0_4 => ?_)
  have hm := gB_at ex0_4 hm
  refine lv_istore_n (lv' := [(0, .int x0_4)]) hx hb d_Int_bitCount_40 rfl hl (by decide) rfl (fun ls hl => ?_)
  refine lv_iload_n hx hb d_Int_bitCount_41 rfl (lv_at hl 0 rfl) ?_
  refine lv_iload_n hx hb d_Int_bitCount_42 rfl (lv_at hl 0 rfl) ?_
  refine lv_bipush (v := 16) hx hb d_Int_bitCount_43 (by decide) ?_
  refine lv_iushr hx hb d_Int_bitCount_45 rfl ?_
  refine lv_iadd hx hb d_Int_bitCount_46 ?_
  refine lv_topi (fun x0_5 ex0_5 => ?_)
  have hm := gB_at ex0_5 hm
  refine lv_istore_n (lv' := [(0, .int x0_5)]) hx hb d_Int_bitCount_47 rfl hl (by decide) rfl (fun ls hl => ?_)
  refine lv_iload_n hx hb d_Int_bitCount_48 rfl (lv_at hl 0 rfl) ?_
  refine lv_bipush (v := 63) hx hb d_Int_bitCount_49 (by decide) ?_
  refine lv_iand hx hb d_Int_bitCount_51 ?_
  cases hm
  exact W.iret hx hb hr (fun t ht hW => ⟨⟨_, (), rfl, rfl, by rw [ht]; exact hP, va_K.moved hW.alike hK, hD⟩, hS.F ht⟩) hS.2.2 d_Int_bitCount_52
theorem d_Arr_fillI_0 : decode prog_19_method_103_code 0 = .ok (.iconst 0, 1) := by decide +kernel
theorem d_Arr_fillI_1 : decode prog_19_method_103_code 1 = .ok (.istore_n 2, 1) := by decide +kernel
theorem d_Arr_fillI_2 : decode prog_19_method_103_code 2 = .ok (.aload_n 0, 1) := by decide +kernel
theorem d_Arr_fillI_3 : decode prog_19_method_103_code 3 = .ok (.arraylength, 1) := by decide +kernel
theorem d_Arr_fillI_4 : decode prog_19_method_103_code 4 = .ok (.istore_n 3, 1) := by decide +kernel
theorem d_Arr_fillI_5 : decode prog_19_method_103_code 5 = .ok (.iload_n 2, 1) := by decide +kernel
theorem d_Arr_fillI_6 : decode prog_19_method_103_code 6 = .ok (.iload_n 3, 1) := by decide +kernel
theorem d_Arr_fillI_7 : decode prog_19_method_103_code 7 = .ok (.if_icmp .ge 13, 3) := by decide +kernel
theorem d_Arr_fillI_10 : decode prog_19_method_103_code 10 = .ok (.aload_n 0, 1) := by decide +kernel
theorem d_Arr_fillI_11 : decode prog_19_method_103_code 11 = .ok (.iload_n 2, 1) := by decide +kernel
theorem d_Arr_fillI_12 : decode prog_19_method_103_code 12 = .ok (.iload_n 1, 1) := by decide +kernel
theorem d_Arr_fillI_13 : decode prog_19_method_103_code 13 = .ok (.iastore, 1) := by decide +kernel
theorem d_Arr_fillI_14 : decode prog_19_method_103_code 14 = .ok (.iinc 2 1, 3) := by decide +kernel
theorem d_Arr_fillI_17 : decode prog_19_method_103_code 17 = .ok (.goto (-12), 3) := by decide +kernel
theorem d_Arr_fillI_20 : decode prog_19_method_103_code 20 = .ok (.return_, 1) := by decide +kernel
abbrev wd_Arr_fillI (cI cJ cG cZ : ClassId) (a0 : Nat) (n0 : Nat) (w0 : Nat → Int32) : va_W := [(a0, .inl (cI, n0, .inl w0))]
abbrev us_Arr_fillI : List Cond := .code y_Arr_fillI prog_19_method_103_code 4 none :: gtbl
abbrev rm_Arr_fillI : Room := { frames := 0, cells := 0, slots := 0, locals := 0 }
def m_Arr_fillI (F : Nat) (n0 : Nat) (w0 : Nat → Int32) (p1 : Int32) : Option ((Nat → Int32)) :=
  gB (nI n0) (fun x3_1 =>
  gL (fun (k_5 : (Int32 × (Nat → Int32)) → Option ((Nat → Int32))) (z_5 : Int32 × (Nat → Int32)) => match z_5 with
  | (x2_2, w0_3) =>
  if x3_1 ≤ x2_2 then (
    some w0_3
  ) else (
    gC (inb x2_2 n0) (
    gB (x2_2 + 1) (fun x2_6 =>
    k_5 (x2_6, upd w0_3 x2_2.toNatClampNeg p1)))
  )
  ) F (0, w0))
set_option maxHeartbeats 4000000 in
set_option maxRecDepth 100000 in
theorem c_Arr_fillI (l : Launch) (dC : Nat → ClassId) (dI : Nat → Nat → Nat) (cI cJ cG cZ : ClassId) (a0 : Nat) (sz : Nat) (F : Nat) (n0 : Nat) (w0 : Nat → Int32) (p1 : Int32) (o_w0 : Nat → Int32) (hm : m_Arr_fillI F n0 w0 p1 = some o_w0) : Met l y_Arr_fillI us_Arr_fillI rm_Arr_fillI (PcS (dC, dI) (tyL cI cJ cG cZ) [.ref a0, .int p1] sz (wd_Arr_fillI cI cJ cG cZ a0 n0 w0)) (va_Qv (fun (_ : Unit) => True) (fun _ t => PoS (dC, dI) (tyL cI cJ cG cZ) (wd_Arr_fillI cI cJ cG cZ a0 n0 o_w0) (va_A (wd_Arr_fillI cI cJ cG cZ a0 n0 w0) sz) t) (va_A (wd_Arr_fillI cI cJ cG cZ a0 n0 w0) sz)) 0 0 (va_A (wd_Arr_fillI cI cJ cG cZ a0 n0 w0) sz) := by
  refine Met.ofW (cc := prog_19_method_103_code) (maxL := 4) (ret := none) (by decide) rfl ?_
  intro p e s m args below meth c s₁ B hml hv
  obtain ⟨rfl, hsz, hP, hK, hD0, hNw⟩ := hv
  have hx := B.exec
  have hb := B.bytes
  have hr := B.returns
  have htt : ∀ w ∈ gtbl, w.before _ s = true := fun w h => atoms_spec (ws := us_Arr_fillI) B.pre w (List.mem_cons_of_mem _ h)
  have hown : s.vm.findClass R_Arr = some m.cls := findClass_of_methodNamed B.named
  have hlocks := B.notSynchronized
  subst hsz
  have hD := hD0.self (sz := s.heap.size)
  generalize hAe : va_A (wd_Arr_fillI cI cJ cG cZ a0 n0 w0) s.heap.size = A at hD ⊢
  have hA : ∀ q : Nat, s.heap.size ≤ q → A q := fun q h => by rw [← hAe]; exact Or.inr h
  clear hAe hD0
  have hS : va_S A s.heap s.heap [] := va_S.rf
  have hl := lv_entry ([.ref a0, .int p1]) (n := 4) (Nat.le_of_ble_eq_true rfl)
  rw [lg_entry_eq]
  generalize (lg_sl ([.ref a0, .int p1]) ++ List.replicate (4 - (lg_sl ([.ref a0, .int p1])).length) Slot.unset).toArray = ls at hl ⊢
  have hl : lv_has ls 4 [(0, .ref a0), (1, .int p1)] := hl
  generalize hH : s.heap = H at hP ⊢
  have hS : va_S A s.heap H [] := hH ▸ hS
  generalize hLo : ([] : List Loc) = locs at hS ⊢
  clear hH hLo
  unfold m_Arr_fillI at hm
  refine lv_iconst (v := 0) hx hb d_Arr_fillI_0 (by decide) ?_
  refine lv_istore_n (lv' := [(2, .int 0), (0, .ref a0), (1, .int p1)]) hx hb d_Arr_fillI_1 rfl hl (by decide) rfl (fun ls hl => ?_)
  refine lv_aload_n hx hb d_Arr_fillI_2 rfl (lv_at hl 1 rfl) ?_
  refine va_alen hx hb hK hP 0 0 rfl rfl rfl d_Arr_fillI_3 ?_
  refine lv_topi (fun x3_1 ex3_1 => ?_)
  have hm := gB_at ex3_1 hm
  refine lv_istore_n (lv' := [(3, .int x3_1), (2, .int 0), (0, .ref a0), (1, .int p1)]) hx hb d_Arr_fillI_4 rfl hl (by decide) rfl (fun ls hl => ?_)
  refine gL_e (P := (fun (z_5 : Int32 × (Nat → Int32)) => ∀ (x2_2 : Int32), ∀ (w0_3 : Nat → Int32), z_5 = (x2_2, w0_3) → ∀ (ls : Array Slot) (H : Heap) (locs : List Loc), lv_has ls 4 [(0, .ref a0), (1, .int p1), (2, .int x2_2), (3, .int x3_1)] → va_P (dC, dI) vwCl (wd_Arr_fillI cI cJ cG cZ a0 n0 w0_3) H → va_D A (wd_Arr_fillI cI cJ cG cZ a0 n0 w0_3) → va_S A s.heap H locs → W p l e (headSpec us_Arr_fillI rm_Arr_fillI).room s m ([.ref a0, .int p1] : List Value).toArray below meth c H locs 0 0 (MQ below (va_Qv (fun (_ : Unit) => True) (fun _ t => PoS (dC, dI) (tyL cI cJ cG cZ) (wd_Arr_fillI cI cJ cG cZ a0 n0 o_w0) A t) A) ([.ref a0, .int p1] : List Value).toArray s 0 0 A) (F0 m 5 ls []))) hm (fun k_5 z_5 ih_5 hm => ?_) _ _ rfl ls H locs (lv_sub hl [2, 3, 1, 0] rfl) hP hD hS
  intro x2_2 w0_3 hz ls H locs hl hP hD hS
  subst hz
  dsimp only at hm
  refine lv_iload_n hx hb d_Arr_fillI_5 rfl (lv_at hl 2 rfl) ?_
  refine lv_iload_n hx hb d_Arr_fillI_6 rfl (lv_at hl 3 rfl) ?_
  refine lv_icmp_ge (tgt := 20) hx hb d_Arr_fillI_7 (by decide) (fun c_4 => ?_) (fun c_4 => ?_)
  · have hm := ite_t c_4 hm
    cases hm
    exact W.vret hx hb hr (fun t ht hW => ⟨⟨(), rfl, trivial, by rw [ht]; exact hP, va_K.moved hW.alike hK, hD⟩, hS.F ht⟩) hS.2.2 d_Arr_fillI_20
  · have hm := ite_f c_4 hm
    refine lv_aload_n hx hb d_Arr_fillI_10 rfl (lv_at hl 0 rfl) ?_
    refine lv_iload_n hx hb d_Arr_fillI_11 rfl (lv_at hl 2 rfl) ?_
    refine lv_iload_n hx hb d_Arr_fillI_12 rfl (lv_at hl 1 rfl) ?_
    obtain ⟨hi_5, hm⟩ := gC_e hm
    refine va_iast hx hb hK hP hD hS 0 0 rfl rfl (inb_vp hi_5) d_Arr_fillI_13 (fun H locs hP hD hS => ?_)
    have hP : va_P (dC, dI) vwCl (wd_Arr_fillI cI cJ cG cZ a0 n0 (upd w0_3 x2_2.toNatClampNeg p1)) H := hP
    have hD : va_D A (wd_Arr_fillI cI cJ cG cZ a0 n0 (upd w0_3 x2_2.toNatClampNeg p1)) := hD
    obtain ⟨x2_6, ex2_6⟩ : ∃ y : Int32, y = x2_2 + 1 := ⟨_, rfl⟩
    have hm := gB_at ex2_6 hm
    refine lv_iinc (v := x2_6) (lv' := [(2, .int x2_6), (0, .ref a0), (1, .int p1), (3, .int x3_1)]) hx hb d_Arr_fillI_14 hl (k := 2) rfl (by rw [ex2_6]; rfl) (by decide) rfl (fun ls hl => ?_)
    refine lv_goto (tgt := 5) hx hb d_Arr_fillI_17 (by decide) ?_
    exact ih_5 _ hm _ _ rfl ls H locs (lv_sub hl [1, 2, 0, 3] rfl) hP hD hS
theorem d_Arr_fillL_0 : decode prog_19_method_101_code 0 = .ok (.iconst 0, 1) := by decide +kernel
theorem d_Arr_fillL_1 : decode prog_19_method_101_code 1 = .ok (.istore_n 3, 1) := by decide +kernel
theorem d_Arr_fillL_2 : decode prog_19_method_101_code 2 = .ok (.aload_n 0, 1) := by decide +kernel
theorem d_Arr_fillL_3 : decode prog_19_method_101_code 3 = .ok (.arraylength, 1) := by decide +kernel
theorem d_Arr_fillL_4 : decode prog_19_method_101_code 4 = .ok (.istore 4, 2) := by decide +kernel
theorem d_Arr_fillL_6 : decode prog_19_method_101_code 6 = .ok (.iload_n 3, 1) := by decide +kernel
theorem d_Arr_fillL_7 : decode prog_19_method_101_code 7 = .ok (.iload 4, 2) := by decide +kernel
theorem d_Arr_fillL_9 : decode prog_19_method_101_code 9 = .ok (.if_icmp .ge 13, 3) := by decide +kernel
theorem d_Arr_fillL_12 : decode prog_19_method_101_code 12 = .ok (.aload_n 0, 1) := by decide +kernel
theorem d_Arr_fillL_13 : decode prog_19_method_101_code 13 = .ok (.iload_n 3, 1) := by decide +kernel
theorem d_Arr_fillL_14 : decode prog_19_method_101_code 14 = .ok (.lload_n 1, 1) := by decide +kernel
theorem d_Arr_fillL_15 : decode prog_19_method_101_code 15 = .ok (.lastore, 1) := by decide +kernel
theorem d_Arr_fillL_16 : decode prog_19_method_101_code 16 = .ok (.iinc 3 1, 3) := by decide +kernel
theorem d_Arr_fillL_19 : decode prog_19_method_101_code 19 = .ok (.goto (-13), 3) := by decide +kernel
theorem d_Arr_fillL_22 : decode prog_19_method_101_code 22 = .ok (.return_, 1) := by decide +kernel
abbrev wd_Arr_fillL (cI cJ cG cZ : ClassId) (a0 : Nat) (n0 : Nat) (w0 : Nat → Int64) : va_W := [(a0, .inl (cJ, n0, .inr (.inl w0)))]
abbrev us_Arr_fillL : List Cond := .code y_Arr_fillL prog_19_method_101_code 5 none :: gtbl
abbrev rm_Arr_fillL : Room := { frames := 0, cells := 0, slots := 0, locals := 0 }
def m_Arr_fillL (F : Nat) (n0 : Nat) (w0 : Nat → Int64) (p1 : Int64) : Option ((Nat → Int64)) :=
  gB (nI n0) (fun x4_1 =>
  gL (fun (k_6 : (Int32 × (Nat → Int64)) → Option ((Nat → Int64))) (z_6 : Int32 × (Nat → Int64)) => match z_6 with
  | (x3_2, w0_3) =>
  if x4_1 ≤ x3_2 then (
    some w0_3
  ) else (
    gC (inb x3_2 n0) (
    gB (x3_2 + 1) (fun x3_6 =>
    k_6 (x3_6, vp_updL w0_3 x3_2.toNatClampNeg p1)))
  )
  ) F (0, w0))
set_option maxHeartbeats 4000000 in
set_option maxRecDepth 100000 in
theorem c_Arr_fillL (l : Launch) (dC : Nat → ClassId) (dI : Nat → Nat → Nat) (cI cJ cG cZ : ClassId) (a0 : Nat) (sz : Nat) (F : Nat) (n0 : Nat) (w0 : Nat → Int64) (p1 : Int64) (o_w0 : Nat → Int64) (hm : m_Arr_fillL F n0 w0 p1 = some o_w0) : Met l y_Arr_fillL us_Arr_fillL rm_Arr_fillL (PcS (dC, dI) (tyL cI cJ cG cZ) [.ref a0, .long p1] sz (wd_Arr_fillL cI cJ cG cZ a0 n0 w0)) (va_Qv (fun (_ : Unit) => True) (fun _ t => PoS (dC, dI) (tyL cI cJ cG cZ) (wd_Arr_fillL cI cJ cG cZ a0 n0 o_w0) (va_A (wd_Arr_fillL cI cJ cG cZ a0 n0 w0) sz) t) (va_A (wd_Arr_fillL cI cJ cG cZ a0 n0 w0) sz)) 0 0 (va_A (wd_Arr_fillL cI cJ cG cZ a0 n0 w0) sz) := by
  refine Met.ofW (cc := prog_19_method_101_code) (maxL := 5) (ret := none) (by decide) rfl ?_
  intro p e s m args below meth c s₁ B hml hv
  obtain ⟨rfl, hsz, hP, hK, hD0, hNw⟩ := hv
  have hx := B.exec
  have hb := B.bytes
  have hr := B.returns
  have htt : ∀ w ∈ gtbl, w.before _ s = true := fun w h => atoms_spec (ws := us_Arr_fillL) B.pre w (List.mem_cons_of_mem _ h)
  have hown : s.vm.findClass R_Arr = some m.cls := findClass_of_methodNamed B.named
  have hlocks := B.notSynchronized
  subst hsz
  have hD := hD0.self (sz := s.heap.size)
  generalize hAe : va_A (wd_Arr_fillL cI cJ cG cZ a0 n0 w0) s.heap.size = A at hD ⊢
  have hA : ∀ q : Nat, s.heap.size ≤ q → A q := fun q h => by rw [← hAe]; exact Or.inr h
  clear hAe hD0
  have hS : va_S A s.heap s.heap [] := va_S.rf
  have hl := lv_entry ([.ref a0, .long p1]) (n := 5) (Nat.le_of_ble_eq_true rfl)
  rw [lg_entry_eq]
  generalize (lg_sl ([.ref a0, .long p1]) ++ List.replicate (5 - (lg_sl ([.ref a0, .long p1])).length) Slot.unset).toArray = ls at hl ⊢
  have hl : lv_has ls 5 [(0, .ref a0), (1, .long p1)] := hl
  generalize hH : s.heap = H at hP ⊢
  have hS : va_S A s.heap H [] := hH ▸ hS
  generalize hLo : ([] : List Loc) = locs at hS ⊢
  clear hH hLo
  unfold m_Arr_fillL at hm
  refine lv_iconst (v := 0) hx hb d_Arr_fillL_0 (by decide) ?_
  refine lv_istore_n (lv' := [(3, .int 0), (0, .ref a0), (1, .long p1)]) hx hb d_Arr_fillL_1 rfl hl (by decide) rfl (fun ls hl => ?_)
  refine lv_aload_n hx hb d_Arr_fillL_2 rfl (lv_at hl 1 rfl) ?_
  refine va_alen hx hb hK hP 0 1 rfl rfl rfl d_Arr_fillL_3 ?_
  refine lv_topi (fun x4_1 ex4_1 => ?_)
  have hm := gB_at ex4_1 hm
  refine lv_istore (lv' := [(4, .int x4_1), (3, .int 0), (0, .ref a0), (1, .long p1)]) hx hb d_Arr_fillL_4 hl (by decide) rfl (fun ls hl => ?_)
  refine gL_e (P := (fun (z_6 : Int32 × (Nat → Int64)) => ∀ (x3_2 : Int32), ∀ (w0_3 : Nat → Int64), z_6 = (x3_2, w0_3) → ∀ (ls : Array Slot) (H : Heap) (locs : List Loc), lv_has ls 5 [(0, .ref a0), (1, .long p1), (3, .int x3_2), (4, .int x4_1)] → va_P (dC, dI) vwCl (wd_Arr_fillL cI cJ cG cZ a0 n0 w0_3) H → va_D A (wd_Arr_fillL cI cJ cG cZ a0 n0 w0_3) → va_S A s.heap H locs → W p l e (headSpec us_Arr_fillL rm_Arr_fillL).room s m ([.ref a0, .long p1] : List Value).toArray below meth c H locs 0 0 (MQ below (va_Qv (fun (_ : Unit) => True) (fun _ t => PoS (dC, dI) (tyL cI cJ cG cZ) (wd_Arr_fillL cI cJ cG cZ a0 n0 o_w0) A t) A) ([.ref a0, .long p1] : List Value).toArray s 0 0 A) (F0 m 6 ls []))) hm (fun k_6 z_6 ih_6 hm => ?_) _ _ rfl ls H locs (lv_sub hl [2, 3, 1, 0] rfl) hP hD hS
  intro x3_2 w0_3 hz ls H locs hl hP hD hS
  subst hz
  dsimp only at hm
  refine lv_iload_n hx hb d_Arr_fillL_6 rfl (lv_at hl 2 rfl) ?_
  refine lv_iload hx hb d_Arr_fillL_7 (lv_at hl 3 rfl) ?_
  refine lv_icmp_ge (tgt := 22) hx hb d_Arr_fillL_9 (by decide) (fun c_4 => ?_) (fun c_4 => ?_)
  · have hm := ite_t c_4 hm
    cases hm
    exact W.vret hx hb hr (fun t ht hW => ⟨⟨(), rfl, trivial, by rw [ht]; exact hP, va_K.moved hW.alike hK, hD⟩, hS.F ht⟩) hS.2.2 d_Arr_fillL_22
  · have hm := ite_f c_4 hm
    refine lv_aload_n hx hb d_Arr_fillL_12 rfl (lv_at hl 0 rfl) ?_
    refine lv_iload_n hx hb d_Arr_fillL_13 rfl (lv_at hl 2 rfl) ?_
    refine lv_lload_n hx hb d_Arr_fillL_14 rfl (lv_at hl 1 rfl) ?_
    obtain ⟨hi_5, hm⟩ := gC_e hm
    refine va_last hx hb hK hP hD hS 0 1 rfl rfl (inb_vp hi_5) d_Arr_fillL_15 (fun H locs hP hD hS => ?_)
    have hP : va_P (dC, dI) vwCl (wd_Arr_fillL cI cJ cG cZ a0 n0 (vp_updL w0_3 x3_2.toNatClampNeg p1)) H := hP
    have hD : va_D A (wd_Arr_fillL cI cJ cG cZ a0 n0 (vp_updL w0_3 x3_2.toNatClampNeg p1)) := hD
    obtain ⟨x3_6, ex3_6⟩ : ∃ y : Int32, y = x3_2 + 1 := ⟨_, rfl⟩
    have hm := gB_at ex3_6 hm
    refine lv_iinc (v := x3_6) (lv' := [(3, .int x3_6), (0, .ref a0), (1, .long p1), (4, .int x4_1)]) hx hb d_Arr_fillL_16 hl (k := 2) rfl (by rw [ex3_6]; rfl) (by decide) rfl (fun ls hl => ?_)
    refine lv_goto (tgt := 6) hx hb d_Arr_fillL_19 (by decide) ?_
    exact ih_6 _ hm _ _ rfl ls H locs (lv_sub hl [1, 2, 0, 3] rfl) hP hD hS
