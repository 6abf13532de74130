theorem d_Net_init_0 : decode prog_4_method_1_code 0 = .ok (.aload_n 0, 1) := by decide +kernel
theorem d_Net_init_1 : decode prog_4_method_1_code 1 = .ok (.invokespecial 3, 3) := by decide +kernel
theorem d_Net_init_4 : decode prog_4_method_1_code 4 = .ok (.aload_n 0, 1) := by decide +kernel
theorem d_Net_init_5 : decode prog_4_method_1_code 5 = .ok (.bipush 12, 2) := by decide +kernel
theorem d_Net_init_7 : decode prog_4_method_1_code 7 = .ok (.newarray .int, 2) := by decide +kernel
theorem d_Net_init_9 : decode prog_4_method_1_code 9 = .ok (.putfield 9, 3) := by decide +kernel
theorem d_Net_init_12 : decode prog_4_method_1_code 12 = .ok (.aload_n 0, 1) := by decide +kernel
theorem d_Net_init_13 : decode prog_4_method_1_code 13 = .ok (.bipush 40, 2) := by decide +kernel
theorem d_Net_init_15 : decode prog_4_method_1_code 15 = .ok (.newarray .int, 2) := by decide +kernel
theorem d_Net_init_17 : decode prog_4_method_1_code 17 = .ok (.putfield 15, 3) := by decide +kernel
theorem d_Net_init_20 : decode prog_4_method_1_code 20 = .ok (.aload_n 0, 1) := by decide +kernel
theorem d_Net_init_21 : decode prog_4_method_1_code 21 = .ok (.bipush 40, 2) := by decide +kernel
theorem d_Net_init_23 : decode prog_4_method_1_code 23 = .ok (.newarray .int, 2) := by decide +kernel
theorem d_Net_init_25 : decode prog_4_method_1_code 25 = .ok (.putfield 18, 3) := by decide +kernel
theorem d_Net_init_28 : decode prog_4_method_1_code 28 = .ok (.return_, 1) := by decide +kernel
abbrev we_full_Net (cI cJ cG cZ : ClassId) (a0 a0_near a0_tail a0_head : Nat) (v0_nodes : Int32) (v0_arcCount : Int32) (v0_version : Int32) (w0_near : Nat → Int32) (w0_tail : Nat → Int32) (w0_head : Nat → Int32) : va_W := [(a0, .inr (1, [.ref a0_near, .ref a0_tail, .ref a0_head, .int v0_nodes, .int v0_arcCount, .int v0_version])), (a0_near, .inl (cI, 12, .inl w0_near)), (a0_tail, .inl (cI, 40, .inl w0_tail)), (a0_head, .inl (cI, 40, .inl w0_head))]
abbrev wd_full_Net (cI cJ cG cZ : ClassId) (a0 a0_near a0_tail a0_head : Nat) (v0_nodes : Int32) (v0_arcCount : Int32) (v0_version : Int32) (w0_near : Nat → Int32) (w0_tail : Nat → Int32) (w0_head : Nat → Int32) : va_W := [(a0, .inr (1, [.ref a0_near, .ref a0_tail, .ref a0_head, .int v0_nodes, .int v0_arcCount, .int v0_version])), (a0_near, .inl (cI, 12, .inl w0_near)), (a0_tail, .inl (cI, 40, .inl w0_tail)), (a0_head, .inl (cI, 40, .inl w0_head))]
abbrev us_Net_init : List Cond := .code y_Net_init prog_4_method_1_code 1 none :: gtbl
abbrev rm_Net_init : Room := { frames := 1, cells := 3, slots := 92, locals := 24 }
set_option maxHeartbeats 4000000 in
set_option maxRecDepth 100000 in
theorem c_Net_init (l : Launch) (dC : Nat → ClassId) (dI : Nat → Nat → Nat) (cI cJ cG cZ : ClassId) (a0 : Nat) (sz : Nat) : Met l y_Net_init us_Net_init rm_Net_init (PcS (dC, dI) (tyL cI cJ cG cZ) [.ref a0] sz ([(a0, .inr (1, [.null, .null, .null, .int 0, .int 0, .int 0]))])) (va_Qv (fun (_ : Nat × Nat × Nat) => True) (fun u t => PoS (dC, dI) (tyL cI cJ cG cZ) (wd_full_Net cI cJ cG cZ a0 u.1 u.2.1 u.2.2 0 0 0 (fun _ => 0) (fun _ => 0) (fun _ => 0)) (va_A ([(a0, .inr (1, [.null, .null, .null, .int 0, .int 0, .int 0]))]) sz) t) (va_A ([(a0, .inr (1, [.null, .null, .null, .int 0, .int 0, .int 0]))]) sz)) 3 92 (va_A ([(a0, .inr (1, [.null, .null, .null, .int 0, .int 0, .int 0]))]) sz) := by
  refine Met.ofW (cc := prog_4_method_1_code) (maxL := 1) (ret := none) (by decide) rfl ?_
  intro p e s m args below meth c s₁ B hml hv
  obtain ⟨rfl, hsz, hP, hK, hD0, hNw⟩ := hv
  have hx := B.exec
  have hb := B.bytes
  have hr := B.returns
  have htt : ∀ w ∈ gtbl, w.before _ s = true := fun w h => atoms_spec (ws := us_Net_init) B.pre w (List.mem_cons_of_mem _ h)
  have hown : s.vm.findClass R_Net = some m.cls := findClass_of_methodNamed B.named
  have hlocks := B.notSynchronized
  have hin9 : meth.name = "<init>" := (name_of_methodNamed B.named B.method).1
  subst hsz
  have hD := hD0.self (sz := s.heap.size)
  generalize hAe : va_A ([(a0, .inr (1, [.null, .null, .null, .int 0, .int 0, .int 0]))]) s.heap.size = A at hD ⊢
  have hA : ∀ q : Nat, s.heap.size ≤ q → A q := fun q h => by rw [← hAe]; exact Or.inr h
  clear hAe hD0
  have hS : va_S A s.heap s.heap [] := va_S.rf
  have hl := lv_entry ([.ref a0]) (n := 1) (Nat.le_of_ble_eq_true rfl)
  rw [lg_entry_eq]
  generalize (lg_sl ([.ref a0]) ++ List.replicate (1 - (lg_sl ([.ref a0])).length) Slot.unset).toArray = ls at hl ⊢
  have hl : lv_has ls 1 [(0, .ref a0)] := hl
  generalize hH : s.heap = H at hP ⊢
  have hS : va_S A s.heap H [] := hH ▸ hS
  generalize hLo : ([] : List Loc) = locs at hS ⊢
  clear hH hLo
  refine lv_aload_n hx hb d_Net_init_0 rfl (lv_at hl 0 rfl) ?_
  refine W.objInit hx hb hown (htt _ kt_31) (htt _ kt_24) (htt _ kt_obji) rfl (by rw [hml]; exact hl.1) rfl d_Net_init_1 (Nat.le_of_ble_eq_true rfl) (Nat.le_of_ble_eq_true rfl) ?_
  refine W.eq (g2 := F0 m 4 ls []) rfl ?_
  refine lv_aload_n hx hb d_Net_init_4 rfl (lv_at hl 0 rfl) ?_
  refine lv_bipush (v := 12) hx hb d_Net_init_5 (by decide) ?_
  refine gx_newI hx hb (htt _ kt_arrI) hK hP hD hS hA (n := 12) (N' := 12) (by decide) (by decide) (by decide) (Nat.le_of_ble_eq_true rfl) (Nat.le_of_ble_eq_true rfl) d_Net_init_7 (fun a0_near H hP hD hS => ?_)
  have hP : va_P (dC, dI) vwCl ([(a0, .inr (1, [.null, .null, .null, .int 0, .int 0, .int 0])), (a0_near, .inl (cI, 12, .inl (fun _ => 0)))]) H := hP
  have hD : va_D A ([(a0, .inr (1, [.null, .null, .null, .int 0, .int 0, .int 0])), (a0_near, .inl (cI, 12, .inl (fun _ => 0)))]) := hD
  refine va_putF (D := (dC, dI)) (ci := 1) (v := .ref a0_near) (ty := .array .int) (C := R_Net) (T := T_Net) (N := 6) hx hb htt hin_Net ty_Net tyok_Net nm_Net hown hK hP hD hS 0 rfl rfl 0 (by decide) (htt _ kt_32) (fun _ h9 => h9) rfl hin9 rfl (by decide +kernel) rfl rfl (Nat.le_of_ble_eq_true rfl) d_Net_init_9 (fun H locs hP hD hS => ?_)
  have hP : va_P (dC, dI) vwCl ([(a0, .inr (1, [.ref a0_near, .null, .null, .int 0, .int 0, .int 0])), (a0_near, .inl (cI, 12, .inl (fun _ => 0)))]) H := hP
  have hD : va_D A ([(a0, .inr (1, [.ref a0_near, .null, .null, .int 0, .int 0, .int 0])), (a0_near, .inl (cI, 12, .inl (fun _ => 0)))]) := hD
  refine lv_aload_n hx hb d_Net_init_12 rfl (lv_at hl 0 rfl) ?_
  refine lv_bipush (v := 40) hx hb d_Net_init_13 (by decide) ?_
  refine gx_newI hx hb (htt _ kt_arrI) hK hP hD hS hA (n := 40) (N' := 40) (by decide) (by decide) (by decide) (Nat.le_of_ble_eq_true rfl) (Nat.le_of_ble_eq_true rfl) d_Net_init_15 (fun a0_tail H hP hD hS => ?_)
  have hP : va_P (dC, dI) vwCl ([(a0, .inr (1, [.ref a0_near, .null, .null, .int 0, .int 0, .int 0])), (a0_near, .inl (cI, 12, .inl (fun _ => 0))), (a0_tail, .inl (cI, 40, .inl (fun _ => 0)))]) H := hP
  have hD : va_D A ([(a0, .inr (1, [.ref a0_near, .null, .null, .int 0, .int 0, .int 0])), (a0_near, .inl (cI, 12, .inl (fun _ => 0))), (a0_tail, .inl (cI, 40, .inl (fun _ => 0)))]) := hD
  refine va_putF (D := (dC, dI)) (ci := 1) (v := .ref a0_tail) (ty := .array .int) (C := R_Net) (T := T_Net) (N := 6) hx hb htt hin_Net ty_Net tyok_Net nm_Net hown hK hP hD hS 0 rfl rfl 1 (by decide) (htt _ kt_39) (fun _ h9 => h9) rfl hin9 rfl (by decide +kernel) rfl rfl (Nat.le_of_ble_eq_true rfl) d_Net_init_17 (fun H locs hP hD hS => ?_)
  have hP : va_P (dC, dI) vwCl ([(a0, .inr (1, [.ref a0_near, .ref a0_tail, .null, .int 0, .int 0, .int 0])), (a0_near, .inl (cI, 12, .inl (fun _ => 0))), (a0_tail, .inl (cI, 40, .inl (fun _ => 0)))]) H := hP
  have hD : va_D A ([(a0, .inr (1, [.ref a0_near, .ref a0_tail, .null, .int 0, .int 0, .int 0])), (a0_near, .inl (cI, 12, .inl (fun _ => 0))), (a0_tail, .inl (cI, 40, .inl (fun _ => 0)))]) := hD
  refine lv_aload_n hx hb d_Net_init_20 rfl (lv_at hl 0 rfl) ?_
  refine lv_bipush (v := 40) hx hb d_Net_init_21 (by decide) ?_
  refine gx_newI hx hb (htt _ kt_arrI) hK hP hD hS hA (n := 40) (N' := 40) (by decide) (by decide) (by decide) (Nat.le_of_ble_eq_true rfl) (Nat.le_of_ble_eq_true rfl) d_Net_init_23 (fun a0_head H hP hD hS => ?_)
  have hP : va_P (dC, dI) vwCl ([(a0, .inr (1, [.ref a0_near, .ref a0_tail, .null, .int 0, .int 0, .int 0])), (a0_near, .inl (cI, 12, .inl (fun _ => 0))), (a0_tail, .inl (cI, 40, .inl (fun _ => 0))), (a0_head, .inl (cI, 40, .inl (fun _ => 0)))]) H := hP
  have hD : va_D A ([(a0, .inr (1, [.ref a0_near, .ref a0_tail, .null, .int 0, .int 0, .int 0])), (a0_near, .inl (cI, 12, .inl (fun _ => 0))), (a0_tail, .inl (cI, 40, .inl (fun _ => 0))), (a0_head, .inl (cI, 40, .inl (fun _ => 0)))]) := hD
  refine va_putF (D := (dC, dI)) (ci := 1) (v := .ref a0_head) (ty := .array .int) (C := R_Net) (T := T_Net) (N := 6) hx hb htt hin_Net ty_Net tyok_Net nm_Net hown hK hP hD hS 0 rfl rfl 2 (by decide) (htt _ kt_42) (fun _ h9 => h9) rfl hin9 rfl (by decide +kernel) rfl rfl (Nat.le_of_ble_eq_true rfl) d_Net_init_25 (fun H locs hP hD hS => ?_)
  have hP : va_P (dC, dI) vwCl ([(a0, .inr (1, [.ref a0_near, .ref a0_tail, .ref a0_head, .int 0, .int 0, .int 0])), (a0_near, .inl (cI, 12, .inl (fun _ => 0))), (a0_tail, .inl (cI, 40, .inl (fun _ => 0))), (a0_head, .inl (cI, 40, .inl (fun _ => 0)))]) H := hP
  have hD : va_D A ([(a0, .inr (1, [.ref a0_near, .ref a0_tail, .ref a0_head, .int 0, .int 0, .int 0])), (a0_near, .inl (cI, 12, .inl (fun _ => 0))), (a0_tail, .inl (cI, 40, .inl (fun _ => 0))), (a0_head, .inl (cI, 40, .inl (fun _ => 0)))]) := hD
  have hP : va_P (dC, dI) vwCl (wd_full_Net cI cJ cG cZ a0 a0_near a0_tail a0_head 0 0 0 (fun _ => 0) (fun _ => 0) (fun _ => 0)) H := hP.sub [0, 1, 2, 3] rfl
  have hD : va_D A (wd_full_Net cI cJ cG cZ a0 a0_near a0_tail a0_head 0 0 0 (fun _ => 0) (fun _ => 0) (fun _ => 0)) := hD.sub [0, 1, 2, 3] (by decide) rfl
  exact W.vret hx hb hr (fun t ht hW => ⟨⟨(a0_near, a0_tail, a0_head), rfl, trivial, by rw [ht]; exact hP, va_K.moved hW.alike hK, hD⟩, hS.F ht⟩) hS.2.2 d_Net_init_28
theorem d_Pai_init_0 : decode prog_5_method_1_code 0 = .ok (.aload_n 0, 1) := by decide +kernel
theorem d_Pai_init_1 : decode prog_5_method_1_code 1 = .ok (.invokespecial 3, 3) := by decide +kernel
theorem d_Pai_init_4 : decode prog_5_method_1_code 4 = .ok (.aload_n 0, 1) := by decide +kernel
theorem d_Pai_init_5 : decode prog_5_method_1_code 5 = .ok (.bipush 16, 2) := by decide +kernel
theorem d_Pai_init_7 : decode prog_5_method_1_code 7 = .ok (.newarray .int, 2) := by decide +kernel
theorem d_Pai_init_9 : decode prog_5_method_1_code 9 = .ok (.putfield 11, 3) := by decide +kernel
theorem d_Pai_init_12 : decode prog_5_method_1_code 12 = .ok (.aload_n 0, 1) := by decide +kernel
theorem d_Pai_init_13 : decode prog_5_method_1_code 13 = .ok (.bipush 16, 2) := by decide +kernel
theorem d_Pai_init_15 : decode prog_5_method_1_code 15 = .ok (.newarray .int, 2) := by decide +kernel
theorem d_Pai_init_17 : decode prog_5_method_1_code 17 = .ok (.putfield 15, 3) := by decide +kernel
theorem d_Pai_init_20 : decode prog_5_method_1_code 20 = .ok (.aload_n 0, 1) := by decide +kernel
theorem d_Pai_init_21 : decode prog_5_method_1_code 21 = .ok (.bipush 18, 2) := by decide +kernel
theorem d_Pai_init_23 : decode prog_5_method_1_code 23 = .ok (.bipush 16, 2) := by decide +kernel
theorem d_Pai_init_25 : decode prog_5_method_1_code 25 = .ok (.multianewarray 18 2, 4) := by decide +kernel
theorem d_Pai_init_29 : decode prog_5_method_1_code 29 = .ok (.putfield 20, 3) := by decide +kernel
theorem d_Pai_init_32 : decode prog_5_method_1_code 32 = .ok (.aload_n 0, 1) := by decide +kernel
theorem d_Pai_init_33 : decode prog_5_method_1_code 33 = .ok (.bipush 12, 2) := by decide +kernel
theorem d_Pai_init_35 : decode prog_5_method_1_code 35 = .ok (.newarray .int, 2) := by decide +kernel
theorem d_Pai_init_37 : decode prog_5_method_1_code 37 = .ok (.putfield 23, 3) := by decide +kernel
theorem d_Pai_init_40 : decode prog_5_method_1_code 40 = .ok (.return_, 1) := by decide +kernel
abbrev we_full_Pai (cI cJ cG cZ : ClassId) (a0 a0_paint a0_near a0_free a0_uses : Nat) (r0_free : Nat → Nat) (v0_items : Int32) (v0_evenly : Int32) (v0_palette : Int32) (v0_share : Int32) (v0_bigger : Int32) (v0_bigNow : Int32) (w0_paint : Nat → Int32) (w0_near : Nat → Int32) (w0_uses : Nat → Int32) (w0_free : Nat → Nat → Int32) : va_W := [(a0, .inr (2, [.ref a0_paint, .ref a0_near, .ref a0_free, .ref a0_uses, .int v0_items, .int v0_evenly, .int v0_palette, .int v0_share, .int v0_bigger, .int v0_bigNow])), (a0_paint, .inl (cI, 16, .inl w0_paint)), (a0_near, .inl (cI, 16, .inl w0_near)), (a0_free, .inl (cG, 18, .inr (.inr (.inr (.inr (gO r0_free 18)))))), (a0_uses, .inl (cI, 12, .inl w0_uses))]
abbrev wd_full_Pai (cI cJ cG cZ : ClassId) (a0 a0_paint a0_near a0_free a0_uses : Nat) (r0_free : Nat → Nat) (v0_items : Int32) (v0_evenly : Int32) (v0_palette : Int32) (v0_share : Int32) (v0_bigger : Int32) (v0_bigNow : Int32) (w0_paint : Nat → Int32) (w0_near : Nat → Int32) (w0_uses : Nat → Int32) (w0_free : Nat → Nat → Int32) : va_W := [(a0, .inr (2, [.ref a0_paint, .ref a0_near, .ref a0_free, .ref a0_uses, .int v0_items, .int v0_evenly, .int v0_palette, .int v0_share, .int v0_bigger, .int v0_bigNow])), (a0_paint, .inl (cI, 16, .inl w0_paint)), (a0_near, .inl (cI, 16, .inl w0_near)), (a0_free, .inl (cG, 18, .inr (.inr (.inr (.inr (gO r0_free 18)))))), (a0_uses, .inl (cI, 12, .inl w0_uses))] ++ rowsW r0_free cI 16 18 w0_free
abbrev us_Pai_init : List Cond := .code y_Pai_init prog_5_method_1_code 1 none :: gtbl
abbrev rm_Pai_init : Room := { frames := 1, cells := 22, slots := 350, locals := 24 }
set_option maxHeartbeats 4000000 in
set_option maxRecDepth 100000 in
theorem c_Pai_init (l : Launch) (dC : Nat → ClassId) (dI : Nat → Nat → Nat) (cI cJ cG cZ : ClassId) (a0 : Nat) (sz : Nat) : Met l y_Pai_init us_Pai_init rm_Pai_init (PcT (dC, dI) (tyL cI cJ cG cZ) [.ref a0] sz ([(a0, .inr (2, [.null, .null, .null, .null, .int 0, .int 0, .int 0, .int 0, .int 0, .int 0]))])) (va_Qv (fun (_ : Nat × Nat × Nat × Nat × (Nat → Nat)) => True) (fun u t => PoS (dC, dI) (tyL cI cJ cG cZ) (wd_full_Pai cI cJ cG cZ a0 u.1 u.2.1 u.2.2.1 u.2.2.2.1 u.2.2.2.2 0 0 0 0 0 0 (fun _ => 0) (fun _ => 0) (fun _ => 0) (fun _ _ => 0)) (va_A ([(a0, .inr (2, [.null, .null, .null, .null, .int 0, .int 0, .int 0, .int 0, .int 0, .int 0]))]) sz) t) (va_A ([(a0, .inr (2, [.null, .null, .null, .null, .int 0, .int 0, .int 0, .int 0, .int 0, .int 0]))]) sz)) 22 350 (va_A ([(a0, .inr (2, [.null, .null, .null, .null, .int 0, .int 0, .int 0, .int 0, .int 0, .int 0]))]) sz) := by
  refine Met.ofW (cc := prog_5_method_1_code) (maxL := 1) (ret := none) (by decide) rfl ?_
  intro p e s m args below meth c s₁ B hml hv
  obtain ⟨rfl, ⟨hsz, hP, hK, hD0, hNw⟩, hO⟩ := hv
  have hx := B.exec
  have hb := B.bytes
  have hr := B.returns
  have htt : ∀ w ∈ gtbl, w.before _ s = true := fun w h => atoms_spec (ws := us_Pai_init) B.pre w (List.mem_cons_of_mem _ h)
  have hown : s.vm.findClass R_Pai = some m.cls := findClass_of_methodNamed B.named
  have hlocks := B.notSynchronized
  have hin9 : meth.name = "<init>" := (name_of_methodNamed B.named B.method).1
  subst hsz
  have hD := hD0.self (sz := s.heap.size)
  generalize hAe : va_A ([(a0, .inr (2, [.null, .null, .null, .null, .int 0, .int 0, .int 0, .int 0, .int 0, .int 0]))]) s.heap.size = A at hD ⊢
  have hA : ∀ q : Nat, s.heap.size ≤ q → A q := fun q h => by rw [← hAe]; exact Or.inr h
  clear hAe hD0
  have hS : va_S A s.heap s.heap [] := va_S.rf
  have hl := lv_entry ([.ref a0]) (n := 1) (Nat.le_of_ble_eq_true rfl)
  rw [lg_entry_eq]
  generalize (lg_sl ([.ref a0]) ++ List.replicate (1 - (lg_sl ([.ref a0])).length) Slot.unset).toArray = ls at hl ⊢
  have hl : lv_has ls 1 [(0, .ref a0)] := hl
  generalize hH : s.heap = H at hP ⊢
  have hS : va_S A s.heap H [] := hH ▸ hS
  generalize hLo : ([] : List Loc) = locs at hS ⊢
  clear hH hLo
  refine lv_aload_n hx hb d_Pai_init_0 rfl (lv_at hl 0 rfl) ?_
  refine W.objInit hx hb hown (htt _ kt_78) (htt _ kt_24) (htt _ kt_obji) rfl (by rw [hml]; exact hl.1) rfl d_Pai_init_1 (Nat.le_of_ble_eq_true rfl) (Nat.le_of_ble_eq_true rfl) ?_
  refine W.eq (g2 := F0 m 4 ls []) rfl ?_
  refine lv_aload_n hx hb d_Pai_init_4 rfl (lv_at hl 0 rfl) ?_
  refine lv_bipush (v := 16) hx hb d_Pai_init_5 (by decide) ?_
  refine gx_newI hx hb (htt _ kt_arrI) hK hP hD hS hA (n := 16) (N' := 16) (by decide) (by decide) (by decide) (Nat.le_of_ble_eq_true rfl) (Nat.le_of_ble_eq_true rfl) d_Pai_init_7 (fun a0_paint H hP hD hS => ?_)
  have hP : va_P (dC, dI) vwCl ([(a0, .inr (2, [.null, .null, .null, .null, .int 0, .int 0, .int 0, .int 0, .int 0, .int 0])), (a0_paint, .inl (cI, 16, .inl (fun _ => 0)))]) H := hP
  have hD : va_D A ([(a0, .inr (2, [.null, .null, .null, .null, .int 0, .int 0, .int 0, .int 0, .int 0, .int 0])), (a0_paint, .inl (cI, 16, .inl (fun _ => 0)))]) := hD
  refine va_putF (D := (dC, dI)) (ci := 2) (v := .ref a0_paint) (ty := .array .int) (C := R_Pai) (T := T_Pai) (N := 10) hx hb htt hin_Pai ty_Pai tyok_Pai nm_Pai hown hK hP hD hS 0 rfl rfl 0 (by decide) (htt _ kt_81) (fun _ h9 => h9) rfl hin9 rfl (by decide +kernel) rfl rfl (Nat.le_of_ble_eq_true rfl) d_Pai_init_9 (fun H locs hP hD hS => ?_)
  have hP : va_P (dC, dI) vwCl ([(a0, .inr (2, [.ref a0_paint, .null, .null, .null, .int 0, .int 0, .int 0, .int 0, .int 0, .int 0])), (a0_paint, .inl (cI, 16, .inl (fun _ => 0)))]) H := hP
  have hD : va_D A ([(a0, .inr (2, [.ref a0_paint, .null, .null, .null, .int 0, .int 0, .int 0, .int 0, .int 0, .int 0])), (a0_paint, .inl (cI, 16, .inl (fun _ => 0)))]) := hD
  refine lv_aload_n hx hb d_Pai_init_12 rfl (lv_at hl 0 rfl) ?_
  refine lv_bipush (v := 16) hx hb d_Pai_init_13 (by decide) ?_
  refine gx_newI hx hb (htt _ kt_arrI) hK hP hD hS hA (n := 16) (N' := 16) (by decide) (by decide) (by decide) (Nat.le_of_ble_eq_true rfl) (Nat.le_of_ble_eq_true rfl) d_Pai_init_15 (fun a0_near H hP hD hS => ?_)
  have hP : va_P (dC, dI) vwCl ([(a0, .inr (2, [.ref a0_paint, .null, .null, .null, .int 0, .int 0, .int 0, .int 0, .int 0, .int 0])), (a0_paint, .inl (cI, 16, .inl (fun _ => 0))), (a0_near, .inl (cI, 16, .inl (fun _ => 0)))]) H := hP
  have hD : va_D A ([(a0, .inr (2, [.ref a0_paint, .null, .null, .null, .int 0, .int 0, .int 0, .int 0, .int 0, .int 0])), (a0_paint, .inl (cI, 16, .inl (fun _ => 0))), (a0_near, .inl (cI, 16, .inl (fun _ => 0)))]) := hD
  refine va_putF (D := (dC, dI)) (ci := 2) (v := .ref a0_near) (ty := .array .int) (C := R_Pai) (T := T_Pai) (N := 10) hx hb htt hin_Pai ty_Pai tyok_Pai nm_Pai hown hK hP hD hS 0 rfl rfl 1 (by decide) (htt _ kt_83) (fun _ h9 => h9) rfl hin9 rfl (by decide +kernel) rfl rfl (Nat.le_of_ble_eq_true rfl) d_Pai_init_17 (fun H locs hP hD hS => ?_)
  have hP : va_P (dC, dI) vwCl ([(a0, .inr (2, [.ref a0_paint, .ref a0_near, .null, .null, .int 0, .int 0, .int 0, .int 0, .int 0, .int 0])), (a0_paint, .inl (cI, 16, .inl (fun _ => 0))), (a0_near, .inl (cI, 16, .inl (fun _ => 0)))]) H := hP
  have hD : va_D A ([(a0, .inr (2, [.ref a0_paint, .ref a0_near, .null, .null, .int 0, .int 0, .int 0, .int 0, .int 0, .int 0])), (a0_paint, .inl (cI, 16, .inl (fun _ => 0))), (a0_near, .inl (cI, 16, .inl (fun _ => 0)))]) := hD
  refine lv_aload_n hx hb d_Pai_init_20 rfl (lv_at hl 0 rfl) ?_
  refine lv_bipush (v := 18) hx hb d_Pai_init_21 (by decide) ?_
  refine lv_bipush (v := 16) hx hb d_Pai_init_23 (by decide) ?_
  refine gx_mna hx hb hown (htt _ kt_79) hO (htt _ kt_arrI) hK hP hD hS hA (n := 18) (k := 16) (N' := 18) (K' := 16) (by decide) (by decide) (by decide) (by decide) (by decide) (by decide) (Nat.le_of_ble_eq_true rfl) (Nat.le_of_ble_eq_true rfl) d_Pai_init_25 (fun a0_free r0_free H hP hD hS => ?_)
  have hP : va_P (dC, dI) vwCl ([(a0, .inr (2, [.ref a0_paint, .ref a0_near, .null, .null, .int 0, .int 0, .int 0, .int 0, .int 0, .int 0])), (a0_paint, .inl (cI, 16, .inl (fun _ => 0))), (a0_near, .inl (cI, 16, .inl (fun _ => 0))), (a0_free, .inl (cG, 18, .inr (.inr (.inr (.inr (gO r0_free 18))))))] ++ rowsW r0_free cI 16 18 (fun _ _ => 0)) H := hP
  have hD : va_D A ([(a0, .inr (2, [.ref a0_paint, .ref a0_near, .null, .null, .int 0, .int 0, .int 0, .int 0, .int 0, .int 0])), (a0_paint, .inl (cI, 16, .inl (fun _ => 0))), (a0_near, .inl (cI, 16, .inl (fun _ => 0))), (a0_free, .inl (cG, 18, .inr (.inr (.inr (.inr (gO r0_free 18))))))] ++ rowsW r0_free cI 16 18 (fun _ _ => 0)) := hD
  refine va_putF (D := (dC, dI)) (ci := 2) (v := .ref a0_free) (ty := .array (.array .int)) (C := R_Pai) (T := T_Pai) (N := 10) hx hb htt hin_Pai ty_Pai tyok_Pai nm_Pai hown hK hP hD hS 0 rfl rfl 2 (by decide) (htt _ kt_84) (fun _ h9 => h9) rfl hin9 rfl (by decide +kernel) rfl rfl (Nat.le_of_ble_eq_true rfl) d_Pai_init_29 (fun H locs hP hD hS => ?_)
  have hP : va_P (dC, dI) vwCl ([(a0, .inr (2, [.ref a0_paint, .ref a0_near, .ref a0_free, .null, .int 0, .int 0, .int 0, .int 0, .int 0, .int 0])), (a0_paint, .inl (cI, 16, .inl (fun _ => 0))), (a0_near, .inl (cI, 16, .inl (fun _ => 0))), (a0_free, .inl (cG, 18, .inr (.inr (.inr (.inr (gO r0_free 18))))))] ++ rowsW r0_free cI 16 18 (fun _ _ => 0)) H := hP
  have hD : va_D A ([(a0, .inr (2, [.ref a0_paint, .ref a0_near, .ref a0_free, .null, .int 0, .int 0, .int 0, .int 0, .int 0, .int 0])), (a0_paint, .inl (cI, 16, .inl (fun _ => 0))), (a0_near, .inl (cI, 16, .inl (fun _ => 0))), (a0_free, .inl (cG, 18, .inr (.inr (.inr (.inr (gO r0_free 18))))))] ++ rowsW r0_free cI 16 18 (fun _ _ => 0)) := hD
  refine lv_aload_n hx hb d_Pai_init_32 rfl (lv_at hl 0 rfl) ?_
  refine lv_bipush (v := 12) hx hb d_Pai_init_33 (by decide) ?_
  refine gx_newI hx hb (htt _ kt_arrI) hK hP hD hS hA (n := 12) (N' := 12) (by decide) (by decide) (by decide) (Nat.le_of_ble_eq_true rfl) (Nat.le_of_ble_eq_true rfl) d_Pai_init_35 (fun a0_uses H hP hD hS => ?_)
  have hP := va_P.swap hP
  have hD := va_D.swap hD
  have hP : va_P (dC, dI) vwCl ([(a0, .inr (2, [.ref a0_paint, .ref a0_near, .ref a0_free, .null, .int 0, .int 0, .int 0, .int 0, .int 0, .int 0])), (a0_paint, .inl (cI, 16, .inl (fun _ => 0))), (a0_near, .inl (cI, 16, .inl (fun _ => 0))), (a0_free, .inl (cG, 18, .inr (.inr (.inr (.inr (gO r0_free 18)))))), (a0_uses, .inl (cI, 12, .inl (fun _ => 0)))] ++ rowsW r0_free cI 16 18 (fun _ _ => 0)) H := hP
  have hD : va_D A ([(a0, .inr (2, [.ref a0_paint, .ref a0_near, .ref a0_free, .null, .int 0, .int 0, .int 0, .int 0, .int 0, .int 0])), (a0_paint, .inl (cI, 16, .inl (fun _ => 0))), (a0_near, .inl (cI, 16, .inl (fun _ => 0))), (a0_free, .inl (cG, 18, .inr (.inr (.inr (.inr (gO r0_free 18)))))), (a0_uses, .inl (cI, 12, .inl (fun _ => 0)))] ++ rowsW r0_free cI 16 18 (fun _ _ => 0)) := hD
  refine va_putF (D := (dC, dI)) (ci := 2) (v := .ref a0_uses) (ty := .array .int) (C := R_Pai) (T := T_Pai) (N := 10) hx hb htt hin_Pai ty_Pai tyok_Pai nm_Pai hown hK hP hD hS 0 rfl rfl 3 (by decide) (htt _ kt_85) (fun _ h9 => h9) rfl hin9 rfl (by decide +kernel) rfl rfl (Nat.le_of_ble_eq_true rfl) d_Pai_init_37 (fun H locs hP hD hS => ?_)
  have hP : va_P (dC, dI) vwCl ([(a0, .inr (2, [.ref a0_paint, .ref a0_near, .ref a0_free, .ref a0_uses, .int 0, .int 0, .int 0, .int 0, .int 0, .int 0])), (a0_paint, .inl (cI, 16, .inl (fun _ => 0))), (a0_near, .inl (cI, 16, .inl (fun _ => 0))), (a0_free, .inl (cG, 18, .inr (.inr (.inr (.inr (gO r0_free 18)))))), (a0_uses, .inl (cI, 12, .inl (fun _ => 0)))] ++ rowsW r0_free cI 16 18 (fun _ _ => 0)) H := hP
  have hD : va_D A ([(a0, .inr (2, [.ref a0_paint, .ref a0_near, .ref a0_free, .ref a0_uses, .int 0, .int 0, .int 0, .int 0, .int 0, .int 0])), (a0_paint, .inl (cI, 16, .inl (fun _ => 0))), (a0_near, .inl (cI, 16, .inl (fun _ => 0))), (a0_free, .inl (cG, 18, .inr (.inr (.inr (.inr (gO r0_free 18)))))), (a0_uses, .inl (cI, 12, .inl (fun _ => 0)))] ++ rowsW r0_free cI 16 18 (fun _ _ => 0)) := hD
  have hP : va_P (dC, dI) vwCl (wd_full_Pai cI cJ cG cZ a0 a0_paint a0_near a0_free a0_uses r0_free 0 0 0 0 0 0 (fun _ => 0) (fun _ => 0) (fun _ => 0) (fun _ _ => 0)) H := hP.part [0, 1, 2, 3, 4] rfl
  have hD : va_D A (wd_full_Pai cI cJ cG cZ a0 a0_paint a0_near a0_free a0_uses r0_free 0 0 0 0 0 0 (fun _ => 0) (fun _ => 0) (fun _ => 0) (fun _ _ => 0)) := hD.part [0, 1, 2, 3, 4] (by decide) rfl
  exact W.vret hx hb hr (fun t ht hW => ⟨⟨(a0_paint, a0_near, a0_free, a0_uses, r0_free), rfl, trivial, by rw [ht]; exact hP, va_K.moved hW.alike hK, hD⟩, hS.F ht⟩) hS.2.2 d_Pai_init_40
theorem d_Pol_init_0 : decode prog_6_method_1_code 0 = .ok (.aload_n 0, 1) := by decide +kernel
theorem d_Pol_init_1 : decode prog_6_method_1_code 1 = .ok (.invokespecial 3, 3) := by decide +kernel
theorem d_Pol_init_4 : decode prog_6_method_1_code 4 = .ok (.aload_n 0, 1) := by decide +kernel
theorem d_Pol_init_5 : decode prog_6_method_1_code 5 = .ok (.bipush 68, 2) := by decide +kernel
theorem d_Pol_init_7 : decode prog_6_method_1_code 7 = .ok (.bipush 12, 2) := by decide +kernel
theorem d_Pol_init_9 : decode prog_6_method_1_code 9 = .ok (.multianewarray 11 2, 4) := by decide +kernel
theorem d_Pol_init_13 : decode prog_6_method_1_code 13 = .ok (.putfield 13, 3) := by decide +kernel
theorem d_Pol_init_16 : decode prog_6_method_1_code 16 = .ok (.aload_n 0, 1) := by decide +kernel
theorem d_Pol_init_17 : decode prog_6_method_1_code 17 = .ok (.bipush 68, 2) := by decide +kernel
theorem d_Pol_init_19 : decode prog_6_method_1_code 19 = .ok (.newarray .int, 2) := by decide +kernel
theorem d_Pol_init_21 : decode prog_6_method_1_code 21 = .ok (.putfield 16, 3) := by decide +kernel
theorem d_Pol_init_24 : decode prog_6_method_1_code 24 = .ok (.aload_n 0, 1) := by decide +kernel
theorem d_Pol_init_25 : decode prog_6_method_1_code 25 = .ok (.bipush 68, 2) := by decide +kernel
theorem d_Pol_init_27 : decode prog_6_method_1_code 27 = .ok (.newarray .long, 2) := by decide +kernel
theorem d_Pol_init_29 : decode prog_6_method_1_code 29 = .ok (.putfield 20, 3) := by decide +kernel
theorem d_Pol_init_32 : decode prog_6_method_1_code 32 = .ok (.aload_n 0, 1) := by decide +kernel
theorem d_Pol_init_33 : decode prog_6_method_1_code 33 = .ok (.bipush 13, 2) := by decide +kernel
theorem d_Pol_init_35 : decode prog_6_method_1_code 35 = .ok (.newarray .long, 2) := by decide +kernel
theorem d_Pol_init_37 : decode prog_6_method_1_code 37 = .ok (.putfield 24, 3) := by decide +kernel
theorem d_Pol_init_40 : decode prog_6_method_1_code 40 = .ok (.aload_n 0, 1) := by decide +kernel
theorem d_Pol_init_41 : decode prog_6_method_1_code 41 = .ok (.bipush 13, 2) := by decide +kernel
theorem d_Pol_init_43 : decode prog_6_method_1_code 43 = .ok (.newarray .long, 2) := by decide +kernel
theorem d_Pol_init_45 : decode prog_6_method_1_code 45 = .ok (.putfield 27, 3) := by decide +kernel
theorem d_Pol_init_48 : decode prog_6_method_1_code 48 = .ok (.aload_n 0, 1) := by decide +kernel
theorem d_Pol_init_49 : decode prog_6_method_1_code 49 = .ok (.iconst (-1), 1) := by decide +kernel
theorem d_Pol_init_50 : decode prog_6_method_1_code 50 = .ok (.putfield 30, 3) := by decide +kernel
theorem d_Pol_init_53 : decode prog_6_method_1_code 53 = .ok (.return_, 1) := by decide +kernel
abbrev we_full_Pol (cI cJ cG cZ : ClassId) (a0 a0_near a0_nodes a0_factors a0_powers a0_product : Nat) (r0_near : Nat → Nat) (v0_versionSeen : Int32) (w0_nodes : Nat → Int32) (w0_factors : Nat → Int64) (w0_powers : Nat → Int64) (w0_product : Nat → Int64) (w0_near : Nat → Nat → Int32) : va_W := [(a0, .inr (3, [.ref a0_near, .ref a0_nodes, .ref a0_factors, .ref a0_powers, .ref a0_product, .int v0_versionSeen])), (a0_near, .inl (cG, 68, .inr (.inr (.inr (.inr (gO r0_near 68)))))), (a0_nodes, .inl (cI, 68, .inl w0_nodes)), (a0_factors, .inl (cJ, 68, .inr (.inl w0_factors))), (a0_powers, .inl (cJ, 13, .inr (.inl w0_powers))), (a0_product, .inl (cJ, 13, .inr (.inl w0_product)))]
abbrev wd_full_Pol (cI cJ cG cZ : ClassId) (a0 a0_near a0_nodes a0_factors a0_powers a0_product : Nat) (r0_near : Nat → Nat) (v0_versionSeen : Int32) (w0_nodes : Nat → Int32) (w0_factors : Nat → Int64) (w0_powers : Nat → Int64) (w0_product : Nat → Int64) (w0_near : Nat → Nat → Int32) : va_W := [(a0, .inr (3, [.ref a0_near, .ref a0_nodes, .ref a0_factors, .ref a0_powers, .ref a0_product, .int v0_versionSeen])), (a0_near, .inl (cG, 68, .inr (.inr (.inr (.inr (gO r0_near 68)))))), (a0_nodes, .inl (cI, 68, .inl w0_nodes)), (a0_factors, .inl (cJ, 68, .inr (.inl w0_factors))), (a0_powers, .inl (cJ, 13, .inr (.inl w0_powers))), (a0_product, .inl (cJ, 13, .inr (.inl w0_product)))] ++ rowsW r0_near cI 12 68 w0_near
abbrev us_Pol_init : List Cond := .code y_Pol_init prog_6_method_1_code 1 none :: gtbl
abbrev rm_Pol_init : Room := { frames := 1, cells := 73, slots := 1046, locals := 24 }
set_option maxHeartbeats 4000000 in
set_option maxRecDepth 100000 in
theorem c_Pol_init (l : Launch) (dC : Nat → ClassId) (dI : Nat → Nat → Nat) (cI cJ cG cZ : ClassId) (a0 : Nat) (sz : Nat) : Met l y_Pol_init us_Pol_init rm_Pol_init (PcT (dC, dI) (tyL cI cJ cG cZ) [.ref a0] sz ([(a0, .inr (3, [.null, .null, .null, .null, .null, .int 0]))])) (va_Qv (fun (_ : Nat × Nat × Nat × Nat × Nat × (Nat → Nat)) => True) (fun u t => PoS (dC, dI) (tyL cI cJ cG cZ) (wd_full_Pol cI cJ cG cZ a0 u.1 u.2.1 u.2.2.1 u.2.2.2.1 u.2.2.2.2.1 u.2.2.2.2.2 (-1) (fun _ => 0) (fun _ => 0) (fun _ => 0) (fun _ => 0) (fun _ _ => 0)) (va_A ([(a0, .inr (3, [.null, .null, .null, .null, .null, .int 0]))]) sz) t) (va_A ([(a0, .inr (3, [.null, .null, .null, .null, .null, .int 0]))]) sz)) 73 1046 (va_A ([(a0, .inr (3, [.null, .null, .null, .null, .null, .int 0]))]) sz) := by
  refine Met.ofW (cc := prog_6_method_1_code) (maxL := 1) (ret := none) (by decide) rfl ?_
  intro p e s m args below meth c s₁ B hml hv
  obtain ⟨rfl, ⟨hsz, hP, hK, hD0, hNw⟩, hO⟩ := hv
  have hx := B.exec
  have hb := B.bytes
  have hr := B.returns
  have htt : ∀ w ∈ gtbl, w.before _ s = true := fun w h => atoms_spec (ws := us_Pol_init) B.pre w (List.mem_cons_of_mem _ h)
  have hown : s.vm.findClass R_Pol = some m.cls := findClass_of_methodNamed B.named
  have hlocks := B.notSynchronized
  have hin9 : meth.name = "<init>" := (name_of_methodNamed B.named B.method).1
  subst hsz
  have hD := hD0.self (sz := s.heap.size)
  generalize hAe : va_A ([(a0, .inr (3, [.null, .null, .null, .null, .null, .int 0]))]) s.heap.size = A at hD ⊢
  have hA : ∀ q : Nat, s.heap.size ≤ q → A q := fun q h => by rw [← hAe]; exact Or.inr h
  clear hAe hD0
  have hS : va_S A s.heap s.heap [] := va_S.rf
  have hl := lv_entry ([.ref a0]) (n := 1) (Nat.le_of_ble_eq_true rfl)
  rw [lg_entry_eq]
  generalize (lg_sl ([.ref a0]) ++ List.replicate (1 - (lg_sl ([.ref a0])).length) Slot.unset).toArray = ls at hl ⊢
  have hl : lv_has ls 1 [(0, .ref a0)] := hl
  generalize hH : s.heap = H at hP ⊢
  have hS : va_S A s.heap H [] := hH ▸ hS
  generalize hLo : ([] : List Loc) = locs at hS ⊢
  clear hH hLo
  refine lv_aload_n hx hb d_Pol_init_0 rfl (lv_at hl 0 rfl) ?_
  refine W.objInit hx hb hown (htt _ kt_118) (htt _ kt_24) (htt _ kt_obji) rfl (by rw [hml]; exact hl.1) rfl d_Pol_init_1 (Nat.le_of_ble_eq_true rfl) (Nat.le_of_ble_eq_true rfl) ?_
  refine W.eq (g2 := F0 m 4 ls []) rfl ?_
  refine lv_aload_n hx hb d_Pol_init_4 rfl (lv_at hl 0 rfl) ?_
  refine lv_bipush (v := 68) hx hb d_Pol_init_5 (by decide) ?_
  refine lv_bipush (v := 12) hx hb d_Pol_init_7 (by decide) ?_
  refine gx_mna hx hb hown (htt _ kt_119) hO (htt _ kt_arrI) hK hP hD hS hA (n := 68) (k := 12) (N' := 68) (K' := 12) (by decide) (by decide) (by decide) (by decide) (by decide) (by decide) (Nat.le_of_ble_eq_true rfl) (Nat.le_of_ble_eq_true rfl) d_Pol_init_9 (fun a0_near r0_near H hP hD hS => ?_)
  have hP : va_P (dC, dI) vwCl ([(a0, .inr (3, [.null, .null, .null, .null, .null, .int 0])), (a0_near, .inl (cG, 68, .inr (.inr (.inr (.inr (gO r0_near 68))))))] ++ rowsW r0_near cI 12 68 (fun _ _ => 0)) H := hP
  have hD : va_D A ([(a0, .inr (3, [.null, .null, .null, .null, .null, .int 0])), (a0_near, .inl (cG, 68, .inr (.inr (.inr (.inr (gO r0_near 68))))))] ++ rowsW r0_near cI 12 68 (fun _ _ => 0)) := hD
  refine va_putF (D := (dC, dI)) (ci := 3) (v := .ref a0_near) (ty := .array (.array .int)) (C := R_Pol) (T := T_Pol) (N := 6) hx hb htt hin_Pol ty_Pol tyok_Pol nm_Pol hown hK hP hD hS 0 rfl rfl 0 (by decide) (htt _ kt_120) (fun _ h9 => h9) rfl hin9 rfl (by decide +kernel) rfl rfl (Nat.le_of_ble_eq_true rfl) d_Pol_init_13 (fun H locs hP hD hS => ?_)
  have hP : va_P (dC, dI) vwCl ([(a0, .inr (3, [.ref a0_near, .null, .null, .null, .null, .int 0])), (a0_near, .inl (cG, 68, .inr (.inr (.inr (.inr (gO r0_near 68))))))] ++ rowsW r0_near cI 12 68 (fun _ _ => 0)) H := hP
  have hD : va_D A ([(a0, .inr (3, [.ref a0_near, .null, .null, .null, .null, .int 0])), (a0_near, .inl (cG, 68, .inr (.inr (.inr (.inr (gO r0_near 68))))))] ++ rowsW r0_near cI 12 68 (fun _ _ => 0)) := hD
  refine lv_aload_n hx hb d_Pol_init_16 rfl (lv_at hl 0 rfl) ?_
  refine lv_bipush (v := 68) hx hb d_Pol_init_17 (by decide) ?_
  refine gx_newI hx hb (htt _ kt_arrI) hK hP hD hS hA (n := 68) (N' := 68) (by decide) (by decide) (by decide) (Nat.le_of_ble_eq_true rfl) (Nat.le_of_ble_eq_true rfl) d_Pol_init_19 (fun a0_nodes H hP hD hS => ?_)
  have hP := va_P.swap hP
  have hD := va_D.swap hD
  have hP : va_P (dC, dI) vwCl ([(a0, .inr (3, [.ref a0_near, .null, .null, .null, .null, .int 0])), (a0_near, .inl (cG, 68, .inr (.inr (.inr (.inr (gO r0_near 68)))))), (a0_nodes, .inl (cI, 68, .inl (fun _ => 0)))] ++ rowsW r0_near cI 12 68 (fun _ _ => 0)) H := hP
  have hD : va_D A ([(a0, .inr (3, [.ref a0_near, .null, .null, .null, .null, .int 0])), (a0_near, .inl (cG, 68, .inr (.inr (.inr (.inr (gO r0_near 68)))))), (a0_nodes, .inl (cI, 68, .inl (fun _ => 0)))] ++ rowsW r0_near cI 12 68 (fun _ _ => 0)) := hD
  refine va_putF (D := (dC, dI)) (ci := 3) (v := .ref a0_nodes) (ty := .array .int) (C := R_Pol) (T := T_Pol) (N := 6) hx hb htt hin_Pol ty_Pol tyok_Pol nm_Pol hown hK hP hD hS 0 rfl rfl 1 (by decide) (htt _ kt_121) (fun _ h9 => h9) rfl hin9 rfl (by decide +kernel) rfl rfl (Nat.le_of_ble_eq_true rfl) d_Pol_init_21 (fun H locs hP hD hS => ?_)
  have hP : va_P (dC, dI) vwCl ([(a0, .inr (3, [.ref a0_near, .ref a0_nodes, .null, .null, .null, .int 0])), (a0_near, .inl (cG, 68, .inr (.inr (.inr (.inr (gO r0_near 68)))))), (a0_nodes, .inl (cI, 68, .inl (fun _ => 0)))] ++ rowsW r0_near cI 12 68 (fun _ _ => 0)) H := hP
  have hD : va_D A ([(a0, .inr (3, [.ref a0_near, .ref a0_nodes, .null, .null, .null, .int 0])), (a0_near, .inl (cG, 68, .inr (.inr (.inr (.inr (gO r0_near 68)))))), (a0_nodes, .inl (cI, 68, .inl (fun _ => 0)))] ++ rowsW r0_near cI 12 68 (fun _ _ => 0)) := hD
  refine lv_aload_n hx hb d_Pol_init_24 rfl (lv_at hl 0 rfl) ?_
  refine lv_bipush (v := 68) hx hb d_Pol_init_25 (by decide) ?_
  refine gx_newJ hx hb (htt _ kt_arrJ) hK hP hD hS hA (n := 68) (N' := 68) (by decide) (by decide) (by decide) (Nat.le_of_ble_eq_true rfl) (Nat.le_of_ble_eq_true rfl) d_Pol_init_27 (fun a0_factors H hP hD hS => ?_)
  have hP := va_P.swap hP
  have hD := va_D.swap hD
  have hP : va_P (dC, dI) vwCl ([(a0, .inr (3, [.ref a0_near, .ref a0_nodes, .null, .null, .null, .int 0])), (a0_near, .inl (cG, 68, .inr (.inr (.inr (.inr (gO r0_near 68)))))), (a0_nodes, .inl (cI, 68, .inl (fun _ => 0))), (a0_factors, .inl (cJ, 68, .inr (.inl (fun _ => 0))))] ++ rowsW r0_near cI 12 68 (fun _ _ => 0)) H := hP
  have hD : va_D A ([(a0, .inr (3, [.ref a0_near, .ref a0_nodes, .null, .null, .null, .int 0])), (a0_near, .inl (cG, 68, .inr (.inr (.inr (.inr (gO r0_near 68)))))), (a0_nodes, .inl (cI, 68, .inl (fun _ => 0))), (a0_factors, .inl (cJ, 68, .inr (.inl (fun _ => 0))))] ++ rowsW r0_near cI 12 68 (fun _ _ => 0)) := hD
  refine va_putF (D := (dC, dI)) (ci := 3) (v := .ref a0_factors) (ty := .array .long) (C := R_Pol) (T := T_Pol) (N := 6) hx hb htt hin_Pol ty_Pol tyok_Pol nm_Pol hown hK hP hD hS 0 rfl rfl 2 (by decide) (htt _ kt_122) (fun _ h9 => h9) rfl hin9 rfl (by decide +kernel) rfl rfl (Nat.le_of_ble_eq_true rfl) d_Pol_init_29 (fun H locs hP hD hS => ?_)
  have hP : va_P (dC, dI) vwCl ([(a0, .inr (3, [.ref a0_near, .ref a0_nodes, .ref a0_factors, .null, .null, .int 0])), (a0_near, .inl (cG, 68, .inr (.inr (.inr (.inr (gO r0_near 68)))))), (a0_nodes, .inl (cI, 68, .inl (fun _ => 0))), (a0_factors, .inl (cJ, 68, .inr (.inl (fun _ => 0))))] ++ rowsW r0_near cI 12 68 (fun _ _ => 0)) H := hP
  have hD : va_D A ([(a0, .inr (3, [.ref a0_near, .ref a0_nodes, .ref a0_factors, .null, .null, .int 0])), (a0_near, .inl (cG, 68, .inr (.inr (.inr (.inr (gO r0_near 68)))))), (a0_nodes, .inl (cI, 68, .inl (fun _ => 0))), (a0_factors, .inl (cJ, 68, .inr (.inl (fun _ => 0))))] ++ rowsW r0_near cI 12 68 (fun _ _ => 0)) := hD
  refine lv_aload_n hx hb d_Pol_init_32 rfl (lv_at hl 0 rfl) ?_
  refine lv_bipush (v := 13) hx hb d_Pol_init_33 (by decide) ?_
  refine gx_newJ hx hb (htt _ kt_arrJ) hK hP hD hS hA (n := 13) (N' := 13) (by decide) (by decide) (by decide) (Nat.le_of_ble_eq_true rfl) (Nat.le_of_ble_eq_true rfl) d_Pol_init_35 (fun a0_powers H hP hD hS => ?_)
  have hP := va_P.swap hP
  have hD := va_D.swap hD
  have hP : va_P (dC, dI) vwCl ([(a0, .inr (3, [.ref a0_near, .ref a0_nodes, .ref a0_factors, .null, .null, .int 0])), (a0_near, .inl (cG, 68, .inr (.inr (.inr (.inr (gO r0_near 68)))))), (a0_nodes, .inl (cI, 68, .inl (fun _ => 0))), (a0_factors, .inl (cJ, 68, .inr (.inl (fun _ => 0)))), (a0_powers, .inl (cJ, 13, .inr (.inl (fun _ => 0))))] ++ rowsW r0_near cI 12 68 (fun _ _ => 0)) H := hP
  have hD : va_D A ([(a0, .inr (3, [.ref a0_near, .ref a0_nodes, .ref a0_factors, .null, .null, .int 0])), (a0_near, .inl (cG, 68, .inr (.inr (.inr (.inr (gO r0_near 68)))))), (a0_nodes, .inl (cI, 68, .inl (fun _ => 0))), (a0_factors, .inl (cJ, 68, .inr (.inl (fun _ => 0)))), (a0_powers, .inl (cJ, 13, .inr (.inl (fun _ => 0))))] ++ rowsW r0_near cI 12 68 (fun _ _ => 0)) := hD
  refine va_putF (D := (dC, dI)) (ci := 3) (v := .ref a0_powers) (ty := .array .long) (C := R_Pol) (T := T_Pol) (N := 6) hx hb htt hin_Pol ty_Pol tyok_Pol nm_Pol hown hK hP hD hS 0 rfl rfl 3 (by decide) (htt _ kt_123) (fun _ h9 => h9) rfl hin9 rfl (by decide +kernel) rfl rfl (Nat.le_of_ble_eq_true rfl) d_Pol_init_37 (fun H locs hP hD hS => ?_)
  have hP : va_P (dC, dI) vwCl ([(a0, .inr (3, [.ref a0_near, .ref a0_nodes, .ref a0_factors, .ref a0_powers, .null, .int 0])), (a0_near, .inl (cG, 68, .inr (.inr (.inr (.inr (gO r0_near 68)))))), (a0_nodes, .inl (cI, 68, .inl (fun _ => 0))), (a0_factors, .inl (cJ, 68, .inr (.inl (fun _ => 0)))), (a0_powers, .inl (cJ, 13, .inr (.inl (fun _ => 0))))] ++ rowsW r0_near cI 12 68 (fun _ _ => 0)) H := hP
  have hD : va_D A ([(a0, .inr (3, [.ref a0_near, .ref a0_nodes, .ref a0_factors, .ref a0_powers, .null, .int 0])), (a0_near, .inl (cG, 68, .inr (.inr (.inr (.inr (gO r0_near 68)))))), (a0_nodes, .inl (cI, 68, .inl (fun _ => 0))), (a0_factors, .inl (cJ, 68, .inr (.inl (fun _ => 0)))), (a0_powers, .inl (cJ, 13, .inr (.inl (fun _ => 0))))] ++ rowsW r0_near cI 12 68 (fun _ _ => 0)) := hD
  refine lv_aload_n hx hb d_Pol_init_40 rfl (lv_at hl 0 rfl) ?_
  refine lv_bipush (v := 13) hx hb d_Pol_init_41 (by decide) ?_
  refine gx_newJ hx hb (htt _ kt_arrJ) hK hP hD hS hA (n := 13) (N' := 13) (by decide) (by decide) (by decide) (Nat.le_of_ble_eq_true rfl) (Nat.le_of_ble_eq_true rfl) d_Pol_init_43 (fun a0_product H hP hD hS => ?_)
  have hP := va_P.swap hP
  have hD := va_D.swap hD
  have hP : va_P (dC, dI) vwCl ([(a0, .inr (3, [.ref a0_near, .ref a0_nodes, .ref a0_factors, .ref a0_powers, .null, .int 0])), (a0_near, .inl (cG, 68, .inr (.inr (.inr (.inr (gO r0_near 68)))))), (a0_nodes, .inl (cI, 68, .inl (fun _ => 0))), (a0_factors, .inl (cJ, 68, .inr (.inl (fun _ => 0)))), (a0_powers, .inl (cJ, 13, .inr (.inl (fun _ => 0)))), (a0_product, .inl (cJ, 13, .inr (.inl (fun _ => 0))))] ++ rowsW r0_near cI 12 68 (fun _ _ => 0)) H := hP
  have hD : va_D A ([(a0, .inr (3, [.ref a0_near, .ref a0_nodes, .ref a0_factors, .ref a0_powers, .null, .int 0])), (a0_near, .inl (cG, 68, .inr (.inr (.inr (.inr (gO r0_near 68)))))), (a0_nodes, .inl (cI, 68, .inl (fun _ => 0))), (a0_factors, .inl (cJ, 68, .inr (.inl (fun _ => 0)))), (a0_powers, .inl (cJ, 13, .inr (.inl (fun _ => 0)))), (a0_product, .inl (cJ, 13, .inr (.inl (fun _ => 0))))] ++ rowsW r0_near cI 12 68 (fun _ _ => 0)) := hD
  refine va_putF (D := (dC, dI)) (ci := 3) (v := .ref a0_product) (ty := .array .long) (C := R_Pol) (T := T_Pol) (N := 6) hx hb htt hin_Pol ty_Pol tyok_Pol nm_Pol hown hK hP hD hS 0 rfl rfl 4 (by decide) (htt _ kt_124) (fun _ h9 => h9) rfl hin9 rfl (by decide +kernel) rfl rfl (Nat.le_of_ble_eq_true rfl) d_Pol_init_45 (fun H locs hP hD hS => ?_)
  have hP : va_P (dC, dI) vwCl ([(a0, .inr (3, [.ref a0_near, .ref a0_nodes, .ref a0_factors, .ref a0_powers, .ref a0_product, .int 0])), (a0_near, .inl (cG, 68, .inr (.inr (.inr (.inr (gO r0_near 68)))))), (a0_nodes, .inl (cI, 68, .inl (fun _ => 0))), (a0_factors, .inl (cJ, 68, .inr (.inl (fun _ => 0)))), (a0_powers, .inl (cJ, 13, .inr (.inl (fun _ => 0)))), (a0_product, .inl (cJ, 13, .inr (.inl (fun _ => 0))))] ++ rowsW r0_near cI 12 68 (fun _ _ => 0)) H := hP
  have hD : va_D A ([(a0, .inr (3, [.ref a0_near, .ref a0_nodes, .ref a0_factors, .ref a0_powers, .ref a0_product, .int 0])), (a0_near, .inl (cG, 68, .inr (.inr (.inr (.inr (gO r0_near 68)))))), (a0_nodes, .inl (cI, 68, .inl (fun _ => 0))), (a0_factors, .inl (cJ, 68, .inr (.inl (fun _ => 0)))), (a0_powers, .inl (cJ, 13, .inr (.inl (fun _ => 0)))), (a0_product, .inl (cJ, 13, .inr (.inl (fun _ => 0))))] ++ rowsW r0_near cI 12 68 (fun _ _ => 0)) := hD
  refine lv_aload_n hx hb d_Pol_init_48 rfl (lv_at hl 0 rfl) ?_
  refine lv_iconst (v := (-1)) hx hb d_Pol_init_49 (by decide) ?_
  refine va_put (D := (dC, dI)) (ci := 3) (v := .int (-1)) (ty := .int) (C := R_Pol) (T := T_Pol) (N := 6) hx hb htt hin_Pol ty_Pol tyok_Pol nm_Pol hown hK hP hD hS 0 rfl rfl 5 (by decide) (htt _ kt_125) (fun _ h9 => h9) rfl (by decide +kernel) rfl rfl (Nat.le_of_ble_eq_true rfl) d_Pol_init_50 (fun H locs hP hD hS => ?_)
  have hP : va_P (dC, dI) vwCl ([(a0, .inr (3, [.ref a0_near, .ref a0_nodes, .ref a0_factors, .ref a0_powers, .ref a0_product, .int (-1)])), (a0_near, .inl (cG, 68, .inr (.inr (.inr (.inr (gO r0_near 68)))))), (a0_nodes, .inl (cI, 68, .inl (fun _ => 0))), (a0_factors, .inl (cJ, 68, .inr (.inl (fun _ => 0)))), (a0_powers, .inl (cJ, 13, .inr (.inl (fun _ => 0)))), (a0_product, .inl (cJ, 13, .inr (.inl (fun _ => 0))))] ++ rowsW r0_near cI 12 68 (fun _ _ => 0)) H := hP
  have hD : va_D A ([(a0, .inr (3, [.ref a0_near, .ref a0_nodes, .ref a0_factors, .ref a0_powers, .ref a0_product, .int (-1)])), (a0_near, .inl (cG, 68, .inr (.inr (.inr (.inr (gO r0_near 68)))))), (a0_nodes, .inl (cI, 68, .inl (fun _ => 0))), (a0_factors, .inl (cJ, 68, .inr (.inl (fun _ => 0)))), (a0_powers, .inl (cJ, 13, .inr (.inl (fun _ => 0)))), (a0_product, .inl (cJ, 13, .inr (.inl (fun _ => 0))))] ++ rowsW r0_near cI 12 68 (fun _ _ => 0)) := hD
  have hP : va_P (dC, dI) vwCl (wd_full_Pol cI cJ cG cZ a0 a0_near a0_nodes a0_factors a0_powers a0_product r0_near (-1) (fun _ => 0) (fun _ => 0) (fun _ => 0) (fun _ => 0) (fun _ _ => 0)) H := hP.part [0, 1, 2, 3, 4, 5] rfl
  have hD : va_D A (wd_full_Pol cI cJ cG cZ a0 a0_near a0_nodes a0_factors a0_powers a0_product r0_near (-1) (fun _ => 0) (fun _ => 0) (fun _ => 0) (fun _ => 0) (fun _ _ => 0)) := hD.part [0, 1, 2, 3, 4, 5] (by decide) rfl
  exact W.vret hx hb hr (fun t ht hW => ⟨⟨(a0_near, a0_nodes, a0_factors, a0_powers, a0_product, r0_near), rfl, trivial, by rw [ht]; exact hP, va_K.moved hW.alike hK, hD⟩, hS.F ht⟩) hS.2.2 d_Pol_init_53
theorem d_LC_init_0 : decode prog_3_method_1_code 0 = .ok (.aload_n 0, 1) := by decide +kernel
theorem d_LC_init_1 : decode prog_3_method_1_code 1 = .ok (.invokespecial 3, 3) := by decide +kernel
theorem d_LC_init_4 : decode prog_3_method_1_code 4 = .ok (.aload_n 0, 1) := by decide +kernel
theorem d_LC_init_5 : decode prog_3_method_1_code 5 = .ok (.bipush 12, 2) := by decide +kernel
theorem d_LC_init_7 : decode prog_3_method_1_code 7 = .ok (.newarray .int, 2) := by decide +kernel
theorem d_LC_init_9 : decode prog_3_method_1_code 9 = .ok (.putfield 9, 3) := by decide +kernel
theorem d_LC_init_12 : decode prog_3_method_1_code 12 = .ok (.aload_n 0, 1) := by decide +kernel
theorem d_LC_init_13 : decode prog_3_method_1_code 13 = .ok (.iconst 1, 1) := by decide +kernel
theorem d_LC_init_14 : decode prog_3_method_1_code 14 = .ok (.newarray .int, 2) := by decide +kernel
theorem d_LC_init_16 : decode prog_3_method_1_code 16 = .ok (.putfield 15, 3) := by decide +kernel
theorem d_LC_init_19 : decode prog_3_method_1_code 19 = .ok (.aload_n 0, 1) := by decide +kernel
theorem d_LC_init_20 : decode prog_3_method_1_code 20 = .ok (.iconst 1, 1) := by decide +kernel
theorem d_LC_init_21 : decode prog_3_method_1_code 21 = .ok (.newarray .int, 2) := by decide +kernel
theorem d_LC_init_23 : decode prog_3_method_1_code 23 = .ok (.putfield 18, 3) := by decide +kernel
theorem d_LC_init_26 : decode prog_3_method_1_code 26 = .ok (.aload_n 0, 1) := by decide +kernel
theorem d_LC_init_27 : decode prog_3_method_1_code 27 = .ok (.iconst 1, 1) := by decide +kernel
theorem d_LC_init_28 : decode prog_3_method_1_code 28 = .ok (.newarray .int, 2) := by decide +kernel
theorem d_LC_init_30 : decode prog_3_method_1_code 30 = .ok (.putfield 21, 3) := by decide +kernel
theorem d_LC_init_33 : decode prog_3_method_1_code 33 = .ok (.aload_n 0, 1) := by decide +kernel
theorem d_LC_init_34 : decode prog_3_method_1_code 34 = .ok (.iconst 1, 1) := by decide +kernel
theorem d_LC_init_35 : decode prog_3_method_1_code 35 = .ok (.newarray .int, 2) := by decide +kernel
theorem d_LC_init_37 : decode prog_3_method_1_code 37 = .ok (.putfield 24, 3) := by decide +kernel
theorem d_LC_init_40 : decode prog_3_method_1_code 40 = .ok (.aload_n 0, 1) := by decide +kernel
theorem d_LC_init_41 : decode prog_3_method_1_code 41 = .ok (.iconst 1, 1) := by decide +kernel
theorem d_LC_init_42 : decode prog_3_method_1_code 42 = .ok (.newarray .long, 2) := by decide +kernel
theorem d_LC_init_44 : decode prog_3_method_1_code 44 = .ok (.putfield 27, 3) := by decide +kernel
theorem d_LC_init_47 : decode prog_3_method_1_code 47 = .ok (.aload_n 0, 1) := by decide +kernel
theorem d_LC_init_48 : decode prog_3_method_1_code 48 = .ok (.iconst (-1), 1) := by decide +kernel
theorem d_LC_init_49 : decode prog_3_method_1_code 49 = .ok (.putfield 31, 3) := by decide +kernel
theorem d_LC_init_52 : decode prog_3_method_1_code 52 = .ok (.return_, 1) := by decide +kernel
abbrev we_full_LC (cI cJ cG cZ : ClassId) (a0 a0_open a0_clash a0_weight a0_common a0_gain a0_sum : Nat) (v0_rest : Int32) (v0_versionSeen : Int32) (v0_restSeen : Int32) (w0_open : Nat → Int32) (n0_clash : Nat) (w0_clash : Nat → Int32) (n0_weight : Nat) (w0_weight : Nat → Int32) (n0_common : Nat) (w0_common : Nat → Int32) (n0_gain : Nat) (w0_gain : Nat → Int32) (n0_sum : Nat) (w0_sum : Nat → Int64) : va_W := [(a0, .inr (4, [.ref a0_open, .ref a0_clash, .ref a0_weight, .ref a0_common, .ref a0_gain, .ref a0_sum, .int v0_rest, .int v0_versionSeen, .int v0_restSeen])), (a0_open, .inl (cI, 12, .inl w0_open)), (a0_clash, .inl (cI, n0_clash, .inl w0_clash)), (a0_weight, .inl (cI, n0_weight, .inl w0_weight)), (a0_common, .inl (cI, n0_common, .inl w0_common)), (a0_gain, .inl (cI, n0_gain, .inl w0_gain)), (a0_sum, .inl (cJ, n0_sum, .inr (.inl w0_sum)))]
abbrev wd_full_LC (cI cJ cG cZ : ClassId) (a0 a0_open a0_clash a0_weight a0_common a0_gain a0_sum : Nat) (v0_rest : Int32) (v0_versionSeen : Int32) (v0_restSeen : Int32) (w0_open : Nat → Int32) (n0_clash : Nat) (w0_clash : Nat → Int32) (n0_weight : Nat) (w0_weight : Nat → Int32) (n0_common : Nat) (w0_common : Nat → Int32) (n0_gain : Nat) (w0_gain : Nat → Int32) (n0_sum : Nat) (w0_sum : Nat → Int64) : va_W := [(a0, .inr (4, [.ref a0_open, .ref a0_clash, .ref a0_weight, .ref a0_common, .ref a0_gain, .ref a0_sum, .int v0_rest, .int v0_versionSeen, .int v0_restSeen])), (a0_open, .inl (cI, 12, .inl w0_open)), (a0_clash, .inl (cI, n0_clash, .inl w0_clash)), (a0_weight, .inl (cI, n0_weight, .inl w0_weight)), (a0_common, .inl (cI, n0_common, .inl w0_common)), (a0_gain, .inl (cI, n0_gain, .inl w0_gain)), (a0_sum, .inl (cJ, n0_sum, .inr (.inl w0_sum)))]
abbrev us_LC_init : List Cond := .code y_LC_init prog_3_method_1_code 1 none :: gtbl
abbrev rm_LC_init : Room := { frames := 1, cells := 6, slots := 17, locals := 24 }
set_option maxHeartbeats 4000000 in
set_option maxRecDepth 100000 in
theorem c_LC_init (l : Launch) (dC : Nat → ClassId) (dI : Nat → Nat → Nat) (cI cJ cG cZ : ClassId) (a0 : Nat) (sz : Nat) : Met l y_LC_init us_LC_init rm_LC_init (PcS (dC, dI) (tyL cI cJ cG cZ) [.ref a0] sz ([(a0, .inr (4, [.null, .null, .null, .null, .null, .null, .int 0, .int 0, .int 0]))])) (va_Qv (fun (_ : Nat × Nat × Nat × Nat × Nat × Nat) => True) (fun u t => PoS (dC, dI) (tyL cI cJ cG cZ) (wd_full_LC cI cJ cG cZ a0 u.1 u.2.1 u.2.2.1 u.2.2.2.1 u.2.2.2.2.1 u.2.2.2.2.2 0 (-1) 0 (fun _ => 0) 1 (fun _ => 0) 1 (fun _ => 0) 1 (fun _ => 0) 1 (fun _ => 0) 1 (fun _ => 0)) (va_A ([(a0, .inr (4, [.null, .null, .null, .null, .null, .null, .int 0, .int 0, .int 0]))]) sz) t) (va_A ([(a0, .inr (4, [.null, .null, .null, .null, .null, .null, .int 0, .int 0, .int 0]))]) sz)) 6 17 (va_A ([(a0, .inr (4, [.null, .null, .null, .null, .null, .null, .int 0, .int 0, .int 0]))]) sz) := by
  refine Met.ofW (cc := prog_3_method_1_code) (maxL := 1) (ret := none) (by decide) rfl ?_
  intro p e s m args below meth c s₁ B hml hv
  obtain ⟨rfl, hsz, hP, hK, hD0, hNw⟩ := hv
  have hx := B.exec
  have hb := B.bytes
  have hr := B.returns
  have htt : ∀ w ∈ gtbl, w.before _ s = true := fun w h => atoms_spec (ws := us_LC_init) B.pre w (List.mem_cons_of_mem _ h)
  have hown : s.vm.findClass R_LC = some m.cls := findClass_of_methodNamed B.named
  have hlocks := B.notSynchronized
  have hin9 : meth.name = "<init>" := (name_of_methodNamed B.named B.method).1
  subst hsz
  have hD := hD0.self (sz := s.heap.size)
  generalize hAe : va_A ([(a0, .inr (4, [.null, .null, .null, .null, .null, .null, .int 0, .int 0, .int 0]))]) s.heap.size = A at hD ⊢
  have hA : ∀ q : Nat, s.heap.size ≤ q → A q := fun q h => by rw [← hAe]; exact Or.inr h
  clear hAe hD0
  have hS : va_S A s.heap s.heap [] := va_S.rf
  have hl := lv_entry ([.ref a0]) (n := 1) (Nat.le_of_ble_eq_true rfl)
  rw [lg_entry_eq]
  generalize (lg_sl ([.ref a0]) ++ List.replicate (1 - (lg_sl ([.ref a0])).length) Slot.unset).toArray = ls at hl ⊢
  have hl : lv_has ls 1 [(0, .ref a0)] := hl
  generalize hH : s.heap = H at hP ⊢
  have hS : va_S A s.heap H [] := hH ▸ hS
  generalize hLo : ([] : List Loc) = locs at hS ⊢
  clear hH hLo
  refine lv_aload_n hx hb d_LC_init_0 rfl (lv_at hl 0 rfl) ?_
  refine W.objInit hx hb hown (htt _ kt_145) (htt _ kt_24) (htt _ kt_obji) rfl (by rw [hml]; exact hl.1) rfl d_LC_init_1 (Nat.le_of_ble_eq_true rfl) (Nat.le_of_ble_eq_true rfl) ?_
  refine W.eq (g2 := F0 m 4 ls []) rfl ?_
  refine lv_aload_n hx hb d_LC_init_4 rfl (lv_at hl 0 rfl) ?_
  refine lv_bipush (v := 12) hx hb d_LC_init_5 (by decide) ?_
  refine gx_newI hx hb (htt _ kt_arrI) hK hP hD hS hA (n := 12) (N' := 12) (by decide) (by decide) (by decide) (Nat.le_of_ble_eq_true rfl) (Nat.le_of_ble_eq_true rfl) d_LC_init_7 (fun a0_open H hP hD hS => ?_)
  have hP : va_P (dC, dI) vwCl ([(a0, .inr (4, [.null, .null, .null, .null, .null, .null, .int 0, .int 0, .int 0])), (a0_open, .inl (cI, 12, .inl (fun _ => 0)))]) H := hP
  have hD : va_D A ([(a0, .inr (4, [.null, .null, .null, .null, .null, .null, .int 0, .int 0, .int 0])), (a0_open, .inl (cI, 12, .inl (fun _ => 0)))]) := hD
  refine va_putF (D := (dC, dI)) (ci := 4) (v := .ref a0_open) (ty := .array .int) (C := R_LC) (T := T_LC) (N := 9) hx hb htt hin_LC ty_LC tyok_LC nm_LC hown hK hP hD hS 0 rfl rfl 0 (by decide) (htt _ kt_146) (fun _ h9 => h9) rfl hin9 rfl (by decide +kernel) rfl rfl (Nat.le_of_ble_eq_true rfl) d_LC_init_9 (fun H locs hP hD hS => ?_)
  have hP : va_P (dC, dI) vwCl ([(a0, .inr (4, [.ref a0_open, .null, .null, .null, .null, .null, .int 0, .int 0, .int 0])), (a0_open, .inl (cI, 12, .inl (fun _ => 0)))]) H := hP
  have hD : va_D A ([(a0, .inr (4, [.ref a0_open, .null, .null, .null, .null, .null, .int 0, .int 0, .int 0])), (a0_open, .inl (cI, 12, .inl (fun _ => 0)))]) := hD
  refine lv_aload_n hx hb d_LC_init_12 rfl (lv_at hl 0 rfl) ?_
  refine lv_iconst (v := 1) hx hb d_LC_init_13 (by decide) ?_
  refine gx_newI hx hb (htt _ kt_arrI) hK hP hD hS hA (n := 1) (N' := 1) (by decide) (by decide) (by decide) (Nat.le_of_ble_eq_true rfl) (Nat.le_of_ble_eq_true rfl) d_LC_init_14 (fun a0_clash H hP hD hS => ?_)
  have hP : va_P (dC, dI) vwCl ([(a0, .inr (4, [.ref a0_open, .null, .null, .null, .null, .null, .int 0, .int 0, .int 0])), (a0_open, .inl (cI, 12, .inl (fun _ => 0))), (a0_clash, .inl (cI, 1, .inl (fun _ => 0)))]) H := hP
  have hD : va_D A ([(a0, .inr (4, [.ref a0_open, .null, .null, .null, .null, .null, .int 0, .int 0, .int 0])), (a0_open, .inl (cI, 12, .inl (fun _ => 0))), (a0_clash, .inl (cI, 1, .inl (fun _ => 0)))]) := hD
  refine va_put (D := (dC, dI)) (ci := 4) (v := .ref a0_clash) (ty := .array .int) (C := R_LC) (T := T_LC) (N := 9) hx hb htt hin_LC ty_LC tyok_LC nm_LC hown hK hP hD hS 0 rfl rfl 1 (by decide) (htt _ kt_147) (fun _ h9 => h9) rfl (by decide +kernel) rfl rfl (Nat.le_of_ble_eq_true rfl) d_LC_init_16 (fun H locs hP hD hS => ?_)
  have hP : va_P (dC, dI) vwCl ([(a0, .inr (4, [.ref a0_open, .ref a0_clash, .null, .null, .null, .null, .int 0, .int 0, .int 0])), (a0_open, .inl (cI, 12, .inl (fun _ => 0))), (a0_clash, .inl (cI, 1, .inl (fun _ => 0)))]) H := hP
  have hD : va_D A ([(a0, .inr (4, [.ref a0_open, .ref a0_clash, .null, .null, .null, .null, .int 0, .int 0, .int 0])), (a0_open, .inl (cI, 12, .inl (fun _ => 0))), (a0_clash, .inl (cI, 1, .inl (fun _ => 0)))]) := hD
  refine lv_aload_n hx hb d_LC_init_19 rfl (lv_at hl 0 rfl) ?_
  refine lv_iconst (v := 1) hx hb d_LC_init_20 (by decide) ?_
  refine gx_newI hx hb (htt _ kt_arrI) hK hP hD hS hA (n := 1) (N' := 1) (by decide) (by decide) (by decide) (Nat.le_of_ble_eq_true rfl) (Nat.le_of_ble_eq_true rfl) d_LC_init_21 (fun a0_weight H hP hD hS => ?_)
  have hP : va_P (dC, dI) vwCl ([(a0, .inr (4, [.ref a0_open, .ref a0_clash, .null, .null, .null, .null, .int 0, .int 0, .int 0])), (a0_open, .inl (cI, 12, .inl (fun _ => 0))), (a0_clash, .inl (cI, 1, .inl (fun _ => 0))), (a0_weight, .inl (cI, 1, .inl (fun _ => 0)))]) H := hP
  have hD : va_D A ([(a0, .inr (4, [.ref a0_open, .ref a0_clash, .null, .null, .null, .null, .int 0, .int 0, .int 0])), (a0_open, .inl (cI, 12, .inl (fun _ => 0))), (a0_clash, .inl (cI, 1, .inl (fun _ => 0))), (a0_weight, .inl (cI, 1, .inl (fun _ => 0)))]) := hD
  refine va_put (D := (dC, dI)) (ci := 4) (v := .ref a0_weight) (ty := .array .int) (C := R_LC) (T := T_LC) (N := 9) hx hb htt hin_LC ty_LC tyok_LC nm_LC hown hK hP hD hS 0 rfl rfl 2 (by decide) (htt _ kt_148) (fun _ h9 => h9) rfl (by decide +kernel) rfl rfl (Nat.le_of_ble_eq_true rfl) d_LC_init_23 (fun H locs hP hD hS => ?_)
  have hP : va_P (dC, dI) vwCl ([(a0, .inr (4, [.ref a0_open, .ref a0_clash, .ref a0_weight, .null, .null, .null, .int 0, .int 0, .int 0])), (a0_open, .inl (cI, 12, .inl (fun _ => 0))), (a0_clash, .inl (cI, 1, .inl (fun _ => 0))), (a0_weight, .inl (cI, 1, .inl (fun _ => 0)))]) H := hP
  have hD : va_D A ([(a0, .inr (4, [.ref a0_open, .ref a0_clash, .ref a0_weight, .null, .null, .null, .int 0, .int 0, .int 0])), (a0_open, .inl (cI, 12, .inl (fun _ => 0))), (a0_clash, .inl (cI, 1, .inl (fun _ => 0))), (a0_weight, .inl (cI, 1, .inl (fun _ => 0)))]) := hD
  refine lv_aload_n hx hb d_LC_init_26 rfl (lv_at hl 0 rfl) ?_
  refine lv_iconst (v := 1) hx hb d_LC_init_27 (by decide) ?_
  refine gx_newI hx hb (htt _ kt_arrI) hK hP hD hS hA (n := 1) (N' := 1) (by decide) (by decide) (by decide) (Nat.le_of_ble_eq_true rfl) (Nat.le_of_ble_eq_true rfl) d_LC_init_28 (fun a0_common H hP hD hS => ?_)
  have hP : va_P (dC, dI) vwCl ([(a0, .inr (4, [.ref a0_open, .ref a0_clash, .ref a0_weight, .null, .null, .null, .int 0, .int 0, .int 0])), (a0_open, .inl (cI, 12, .inl (fun _ => 0))), (a0_clash, .inl (cI, 1, .inl (fun _ => 0))), (a0_weight, .inl (cI, 1, .inl (fun _ => 0))), (a0_common, .inl (cI, 1, .inl (fun _ => 0)))]) H := hP
  have hD : va_D A ([(a0, .inr (4, [.ref a0_open, .ref a0_clash, .ref a0_weight, .null, .null, .null, .int 0, .int 0, .int 0])), (a0_open, .inl (cI, 12, .inl (fun _ => 0))), (a0_clash, .inl (cI, 1, .inl (fun _ => 0))), (a0_weight, .inl (cI, 1, .inl (fun _ => 0))), (a0_common, .inl (cI, 1, .inl (fun _ => 0)))]) := hD
  refine va_put (D := (dC, dI)) (ci := 4) (v := .ref a0_common) (ty := .array .int) (C := R_LC) (T := T_LC) (N := 9) hx hb htt hin_LC ty_LC tyok_LC nm_LC hown hK hP hD hS 0 rfl rfl 3 (by decide) (htt _ kt_149) (fun _ h9 => h9) rfl (by decide +kernel) rfl rfl (Nat.le_of_ble_eq_true rfl) d_LC_init_30 (fun H locs hP hD hS => ?_)
  have hP : va_P (dC, dI) vwCl ([(a0, .inr (4, [.ref a0_open, .ref a0_clash, .ref a0_weight, .ref a0_common, .null, .null, .int 0, .int 0, .int 0])), (a0_open, .inl (cI, 12, .inl (fun _ => 0))), (a0_clash, .inl (cI, 1, .inl (fun _ => 0))), (a0_weight, .inl (cI, 1, .inl (fun _ => 0))), (a0_common, .inl (cI, 1, .inl (fun _ => 0)))]) H := hP
  have hD : va_D A ([(a0, .inr (4, [.ref a0_open, .ref a0_clash, .ref a0_weight, .ref a0_common, .null, .null, .int 0, .int 0, .int 0])), (a0_open, .inl (cI, 12, .inl (fun _ => 0))), (a0_clash, .inl (cI, 1, .inl (fun _ => 0))), (a0_weight, .inl (cI, 1, .inl (fun _ => 0))), (a0_common, .inl (cI, 1, .inl (fun _ => 0)))]) := hD
  refine lv_aload_n hx hb d_LC_init_33 rfl (lv_at hl 0 rfl) ?_
  refine lv_iconst (v := 1) hx hb d_LC_init_34 (by decide) ?_
  refine gx_newI hx hb (htt _ kt_arrI) hK hP hD hS hA (n := 1) (N' := 1) (by decide) (by decide) (by decide) (Nat.le_of_ble_eq_true rfl) (Nat.le_of_ble_eq_true rfl) d_LC_init_35 (fun a0_gain H hP hD hS => ?_)
  have hP : va_P (dC, dI) vwCl ([(a0, .inr (4, [.ref a0_open, .ref a0_clash, .ref a0_weight, .ref a0_common, .null, .null, .int 0, .int 0, .int 0])), (a0_open, .inl (cI, 12, .inl (fun _ => 0))), (a0_clash, .inl (cI, 1, .inl (fun _ => 0))), (a0_weight, .inl (cI, 1, .inl (fun _ => 0))), (a0_common, .inl (cI, 1, .inl (fun _ => 0))), (a0_gain, .inl (cI, 1, .inl (fun _ => 0)))]) H := hP
  have hD : va_D A ([(a0, .inr (4, [.ref a0_open, .ref a0_clash, .ref a0_weight, .ref a0_common, .null, .null, .int 0, .int 0, .int 0])), (a0_open, .inl (cI, 12, .inl (fun _ => 0))), (a0_clash, .inl (cI, 1, .inl (fun _ => 0))), (a0_weight, .inl (cI, 1, .inl (fun _ => 0))), (a0_common, .inl (cI, 1, .inl (fun _ => 0))), (a0_gain, .inl (cI, 1, .inl (fun _ => 0)))]) := hD
  refine va_put (D := (dC, dI)) (ci := 4) (v := .ref a0_gain) (ty := .array .int) (C := R_LC) (T := T_LC) (N := 9) hx hb htt hin_LC ty_LC tyok_LC nm_LC hown hK hP hD hS 0 rfl rfl 4 (by decide) (htt _ kt_150) (fun _ h9 => h9) rfl (by decide +kernel) rfl rfl (Nat.le_of_ble_eq_true rfl) d_LC_init_37 (fun H locs hP hD hS => ?_)
  have hP : va_P (dC, dI) vwCl ([(a0, .inr (4, [.ref a0_open, .ref a0_clash, .ref a0_weight, .ref a0_common, .ref a0_gain, .null, .int 0, .int 0, .int 0])), (a0_open, .inl (cI, 12, .inl (fun _ => 0))), (a0_clash, .inl (cI, 1, .inl (fun _ => 0))), (a0_weight, .inl (cI, 1, .inl (fun _ => 0))), (a0_common, .inl (cI, 1, .inl (fun _ => 0))), (a0_gain, .inl (cI, 1, .inl (fun _ => 0)))]) H := hP
  have hD : va_D A ([(a0, .inr (4, [.ref a0_open, .ref a0_clash, .ref a0_weight, .ref a0_common, .ref a0_gain, .null, .int 0, .int 0, .int 0])), (a0_open, .inl (cI, 12, .inl (fun _ => 0))), (a0_clash, .inl (cI, 1, .inl (fun _ => 0))), (a0_weight, .inl (cI, 1, .inl (fun _ => 0))), (a0_common, .inl (cI, 1, .inl (fun _ => 0))), (a0_gain, .inl (cI, 1, .inl (fun _ => 0)))]) := hD
  refine lv_aload_n hx hb d_LC_init_40 rfl (lv_at hl 0 rfl) ?_
  refine lv_iconst (v := 1) hx hb d_LC_init_41 (by decide) ?_
  refine gx_newJ hx hb (htt _ kt_arrJ) hK hP hD hS hA (n := 1) (N' := 1) (by decide) (by decide) (by decide) (Nat.le_of_ble_eq_true rfl) (Nat.le_of_ble_eq_true rfl) d_LC_init_42 (fun a0_sum H hP hD hS => ?_)
  have hP : va_P (dC, dI) vwCl ([(a0, .inr (4, [.ref a0_open, .ref a0_clash, .ref a0_weight, .ref a0_common, .ref a0_gain, .null, .int 0, .int 0, .int 0])), (a0_open, .inl (cI, 12, .inl (fun _ => 0))), (a0_clash, .inl (cI, 1, .inl (fun _ => 0))), (a0_weight, .inl (cI, 1, .inl (fun _ => 0))), (a0_common, .inl (cI, 1, .inl (fun _ => 0))), (a0_gain, .inl (cI, 1, .inl (fun _ => 0))), (a0_sum, .inl (cJ, 1, .inr (.inl (fun _ => 0))))]) H := hP
  have hD : va_D A ([(a0, .inr (4, [.ref a0_open, .ref a0_clash, .ref a0_weight, .ref a0_common, .ref a0_gain, .null, .int 0, .int 0, .int 0])), (a0_open, .inl (cI, 12, .inl (fun _ => 0))), (a0_clash, .inl (cI, 1, .inl (fun _ => 0))), (a0_weight, .inl (cI, 1, .inl (fun _ => 0))), (a0_common, .inl (cI, 1, .inl (fun _ => 0))), (a0_gain, .inl (cI, 1, .inl (fun _ => 0))), (a0_sum, .inl (cJ, 1, .inr (.inl (fun _ => 0))))]) := hD
  refine va_put (D := (dC, dI)) (ci := 4) (v := .ref a0_sum) (ty := .array .long) (C := R_LC) (T := T_LC) (N := 9) hx hb htt hin_LC ty_LC tyok_LC nm_LC hown hK hP hD hS 0 rfl rfl 5 (by decide) (htt _ kt_151) (fun _ h9 => h9) rfl (by decide +kernel) rfl rfl (Nat.le_of_ble_eq_true rfl) d_LC_init_44 (fun H locs hP hD hS => ?_)
  have hP : va_P (dC, dI) vwCl ([(a0, .inr (4, [.ref a0_open, .ref a0_clash, .ref a0_weight, .ref a0_common, .ref a0_gain, .ref a0_sum, .int 0, .int 0, .int 0])), (a0_open, .inl (cI, 12, .inl (fun _ => 0))), (a0_clash, .inl (cI, 1, .inl (fun _ => 0))), (a0_weight, .inl (cI, 1, .inl (fun _ => 0))), (a0_common, .inl (cI, 1, .inl (fun _ => 0))), (a0_gain, .inl (cI, 1, .inl (fun _ => 0))), (a0_sum, .inl (cJ, 1, .inr (.inl (fun _ => 0))))]) H := hP
  have hD : va_D A ([(a0, .inr (4, [.ref a0_open, .ref a0_clash, .ref a0_weight, .ref a0_common, .ref a0_gain, .ref a0_sum, .int 0, .int 0, .int 0])), (a0_open, .inl (cI, 12, .inl (fun _ => 0))), (a0_clash, .inl (cI, 1, .inl (fun _ => 0))), (a0_weight, .inl (cI, 1, .inl (fun _ => 0))), (a0_common, .inl (cI, 1, .inl (fun _ => 0))), (a0_gain, .inl (cI, 1, .inl (fun _ => 0))), (a0_sum, .inl (cJ, 1, .inr (.inl (fun _ => 0))))]) := hD
  refine lv_aload_n hx hb d_LC_init_47 rfl (lv_at hl 0 rfl) ?_
  refine lv_iconst (v := (-1)) hx hb d_LC_init_48 (by decide) ?_
  refine va_put (D := (dC, dI)) (ci := 4) (v := .int (-1)) (ty := .int) (C := R_LC) (T := T_LC) (N := 9) hx hb htt hin_LC ty_LC tyok_LC nm_LC hown hK hP hD hS 0 rfl rfl 7 (by decide) (htt _ kt_153) (fun _ h9 => h9) rfl (by decide +kernel) rfl rfl (Nat.le_of_ble_eq_true rfl) d_LC_init_49 (fun H locs hP hD hS => ?_)
  have hP : va_P (dC, dI) vwCl ([(a0, .inr (4, [.ref a0_open, .ref a0_clash, .ref a0_weight, .ref a0_common, .ref a0_gain, .ref a0_sum, .int 0, .int (-1), .int 0])), (a0_open, .inl (cI, 12, .inl (fun _ => 0))), (a0_clash, .inl (cI, 1, .inl (fun _ => 0))), (a0_weight, .inl (cI, 1, .inl (fun _ => 0))), (a0_common, .inl (cI, 1, .inl (fun _ => 0))), (a0_gain, .inl (cI, 1, .inl (fun _ => 0))), (a0_sum, .inl (cJ, 1, .inr (.inl (fun _ => 0))))]) H := hP
  have hD : va_D A ([(a0, .inr (4, [.ref a0_open, .ref a0_clash, .ref a0_weight, .ref a0_common, .ref a0_gain, .ref a0_sum, .int 0, .int (-1), .int 0])), (a0_open, .inl (cI, 12, .inl (fun _ => 0))), (a0_clash, .inl (cI, 1, .inl (fun _ => 0))), (a0_weight, .inl (cI, 1, .inl (fun _ => 0))), (a0_common, .inl (cI, 1, .inl (fun _ => 0))), (a0_gain, .inl (cI, 1, .inl (fun _ => 0))), (a0_sum, .inl (cJ, 1, .inr (.inl (fun _ => 0))))]) := hD
  have hP : va_P (dC, dI) vwCl (wd_full_LC cI cJ cG cZ a0 a0_open a0_clash a0_weight a0_common a0_gain a0_sum 0 (-1) 0 (fun _ => 0) 1 (fun _ => 0) 1 (fun _ => 0) 1 (fun _ => 0) 1 (fun _ => 0) 1 (fun _ => 0)) H := hP.sub [0, 1, 2, 3, 4, 5, 6] rfl
  have hD : va_D A (wd_full_LC cI cJ cG cZ a0 a0_open a0_clash a0_weight a0_common a0_gain a0_sum 0 (-1) 0 (fun _ => 0) 1 (fun _ => 0) 1 (fun _ => 0) 1 (fun _ => 0) 1 (fun _ => 0) 1 (fun _ => 0)) := hD.sub [0, 1, 2, 3, 4, 5, 6] (by decide) rfl
  exact W.vret hx hb hr (fun t ht hW => ⟨⟨(a0_open, a0_clash, a0_weight, a0_common, a0_gain, a0_sum), rfl, trivial, by rw [ht]; exact hP, va_K.moved hW.alike hK, hD⟩, hS.F ht⟩) hS.2.2 d_LC_init_52
theorem d_SF_init_0 : decode prog_7_method_1_code 0 = .ok (.aload_n 0, 1) := by decide +kernel
theorem d_SF_init_1 : decode prog_7_method_1_code 1 = .ok (.invokespecial 3, 3) := by decide +kernel
theorem d_SF_init_4 : decode prog_7_method_1_code 4 = .ok (.aload_n 0, 1) := by decide +kernel
theorem d_SF_init_5 : decode prog_7_method_1_code 5 = .ok (.bipush 12, 2) := by decide +kernel
theorem d_SF_init_7 : decode prog_7_method_1_code 7 = .ok (.newarray .int, 2) := by decide +kernel
theorem d_SF_init_9 : decode prog_7_method_1_code 9 = .ok (.putfield 9, 3) := by decide +kernel
theorem d_SF_init_12 : decode prog_7_method_1_code 12 = .ok (.return_, 1) := by decide +kernel
abbrev we_full_SF (cI cJ cG cZ : ClassId) (a0 a0_fits : Nat) (v0_best : Int32) (w0_fits : Nat → Int32) : va_W := [(a0, .inr (5, [.ref a0_fits, .int v0_best])), (a0_fits, .inl (cI, 12, .inl w0_fits))]
abbrev wd_full_SF (cI cJ cG cZ : ClassId) (a0 a0_fits : Nat) (v0_best : Int32) (w0_fits : Nat → Int32) : va_W := [(a0, .inr (5, [.ref a0_fits, .int v0_best])), (a0_fits, .inl (cI, 12, .inl w0_fits))]
abbrev us_SF_init : List Cond := .code y_SF_init prog_7_method_1_code 1 none :: gtbl
abbrev rm_SF_init : Room := { frames := 1, cells := 1, slots := 12, locals := 24 }
set_option maxHeartbeats 4000000 in
set_option maxRecDepth 100000 in
theorem c_SF_init (l : Launch) (dC : Nat → ClassId) (dI : Nat → Nat → Nat) (cI cJ cG cZ : ClassId) (a0 : Nat) (sz : Nat) : Met l y_SF_init us_SF_init rm_SF_init (PcS (dC, dI) (tyL cI cJ cG cZ) [.ref a0] sz ([(a0, .inr (5, [.null, .int 0]))])) (va_Qv (fun (_ : Nat) => True) (fun u t => PoS (dC, dI) (tyL cI cJ cG cZ) (wd_full_SF cI cJ cG cZ a0 u 0 (fun _ => 0)) (va_A ([(a0, .inr (5, [.null, .int 0]))]) sz) t) (va_A ([(a0, .inr (5, [.null, .int 0]))]) sz)) 1 12 (va_A ([(a0, .inr (5, [.null, .int 0]))]) sz) := by
  refine Met.ofW (cc := prog_7_method_1_code) (maxL := 1) (ret := none) (by decide) rfl ?_
  intro p e s m args below meth c s₁ B hml hv
  obtain ⟨rfl, hsz, hP, hK, hD0, hNw⟩ := hv
  have hx := B.exec
  have hb := B.bytes
  have hr := B.returns
  have htt : ∀ w ∈ gtbl, w.before _ s = true := fun w h => atoms_spec (ws := us_SF_init) B.pre w (List.mem_cons_of_mem _ h)
  have hown : s.vm.findClass R_SF = some m.cls := findClass_of_methodNamed B.named
  have hlocks := B.notSynchronized
  have hin9 : meth.name = "<init>" := (name_of_methodNamed B.named B.method).1
  subst hsz
  have hD := hD0.self (sz := s.heap.size)
  generalize hAe : va_A ([(a0, .inr (5, [.null, .int 0]))]) s.heap.size = A at hD ⊢
  have hA : ∀ q : Nat, s.heap.size ≤ q → A q := fun q h => by rw [← hAe]; exact Or.inr h
  clear hAe hD0
  have hS : va_S A s.heap s.heap [] := va_S.rf
  have hl := lv_entry ([.ref a0]) (n := 1) (Nat.le_of_ble_eq_true rfl)
  rw [lg_entry_eq]
  generalize (lg_sl ([.ref a0]) ++ List.replicate (1 - (lg_sl ([.ref a0])).length) Slot.unset).toArray = ls at hl ⊢
  have hl : lv_has ls 1 [(0, .ref a0)] := hl
  generalize hH : s.heap = H at hP ⊢
  have hS : va_S A s.heap H [] := hH ▸ hS
  generalize hLo : ([] : List Loc) = locs at hS ⊢
  clear hH hLo
  refine lv_aload_n hx hb d_SF_init_0 rfl (lv_at hl 0 rfl) ?_
  refine W.objInit hx hb hown (htt _ kt_179) (htt _ kt_24) (htt _ kt_obji) rfl (by rw [hml]; exact hl.1) rfl d_SF_init_1 (Nat.le_of_ble_eq_true rfl) (Nat.le_of_ble_eq_true rfl) ?_
  refine W.eq (g2 := F0 m 4 ls []) rfl ?_
  refine lv_aload_n hx hb d_SF_init_4 rfl (lv_at hl 0 rfl) ?_
  refine lv_bipush (v := 12) hx hb d_SF_init_5 (by decide) ?_
  refine gx_newI hx hb (htt _ kt_arrI) hK hP hD hS hA (n := 12) (N' := 12) (by decide) (by decide) (by decide) (Nat.le_of_ble_eq_true rfl) (Nat.le_of_ble_eq_true rfl) d_SF_init_7 (fun a0_fits H hP hD hS => ?_)
  have hP : va_P (dC, dI) vwCl ([(a0, .inr (5, [.null, .int 0])), (a0_fits, .inl (cI, 12, .inl (fun _ => 0)))]) H := hP
  have hD : va_D A ([(a0, .inr (5, [.null, .int 0])), (a0_fits, .inl (cI, 12, .inl (fun _ => 0)))]) := hD
  refine va_putF (D := (dC, dI)) (ci := 5) (v := .ref a0_fits) (ty := .array .int) (C := R_SF) (T := T_SF) (N := 2) hx hb htt hin_SF ty_SF tyok_SF nm_SF hown hK hP hD hS 0 rfl rfl 0 (by decide) (htt _ kt_180) (fun _ h9 => h9) rfl hin9 rfl (by decide +kernel) rfl rfl (Nat.le_of_ble_eq_true rfl) d_SF_init_9 (fun H locs hP hD hS => ?_)
  have hP : va_P (dC, dI) vwCl ([(a0, .inr (5, [.ref a0_fits, .int 0])), (a0_fits, .inl (cI, 12, .inl (fun _ => 0)))]) H := hP
  have hD : va_D A ([(a0, .inr (5, [.ref a0_fits, .int 0])), (a0_fits, .inl (cI, 12, .inl (fun _ => 0)))]) := hD
  have hP : va_P (dC, dI) vwCl (wd_full_SF cI cJ cG cZ a0 a0_fits 0 (fun _ => 0)) H := hP.sub [0, 1] rfl
  have hD : va_D A (wd_full_SF cI cJ cG cZ a0 a0_fits 0 (fun _ => 0)) := hD.sub [0, 1] (by decide) rfl
  exact W.vret hx hb hr (fun t ht hW => ⟨⟨a0_fits, rfl, trivial, by rw [ht]; exact hP, va_K.moved hW.alike hK, hD⟩, hS.F ht⟩) hS.2.2 d_SF_init_12
theorem d_TA_init_0 : decode prog_8_method_1_code 0 = .ok (.aload_n 0, 1) := by decide +kernel
theorem d_TA_init_1 : decode prog_8_method_1_code 1 = .ok (.invokespecial 3, 3) := by decide +kernel
theorem d_TA_init_4 : decode prog_8_method_1_code 4 = .ok (.aload_n 0, 1) := by decide +kernel
theorem d_TA_init_5 : decode prog_8_method_1_code 5 = .ok (.bipush 12, 2) := by decide +kernel
theorem d_TA_init_7 : decode prog_8_method_1_code 7 = .ok (.newarray .int, 2) := by decide +kernel
theorem d_TA_init_9 : decode prog_8_method_1_code 9 = .ok (.putfield 9, 3) := by decide +kernel
theorem d_TA_init_12 : decode prog_8_method_1_code 12 = .ok (.return_, 1) := by decide +kernel
abbrev we_full_TA (cI cJ cG cZ : ClassId) (a0 a0_sequence : Nat) (v0_count : Int32) (v0_remains : Int32) (w0_sequence : Nat → Int32) : va_W := [(a0, .inr (6, [.ref a0_sequence, .int v0_count, .int v0_remains])), (a0_sequence, .inl (cI, 12, .inl w0_sequence))]
abbrev wd_full_TA (cI cJ cG cZ : ClassId) (a0 a0_sequence : Nat) (v0_count : Int32) (v0_remains : Int32) (w0_sequence : Nat → Int32) : va_W := [(a0, .inr (6, [.ref a0_sequence, .int v0_count, .int v0_remains])), (a0_sequence, .inl (cI, 12, .inl w0_sequence))]
abbrev us_TA_init : List Cond := .code y_TA_init prog_8_method_1_code 1 none :: gtbl
abbrev rm_TA_init : Room := { frames := 1, cells := 1, slots := 12, locals := 24 }
set_option maxHeartbeats 4000000 in
set_option maxRecDepth 100000 in
theorem c_TA_init (l : Launch) (dC : Nat → ClassId) (dI : Nat → Nat → Nat) (cI cJ cG cZ : ClassId) (a0 : Nat) (sz : Nat) : Met l y_TA_init us_TA_init rm_TA_init (PcS (dC, dI) (tyL cI cJ cG cZ) [.ref a0] sz ([(a0, .inr (6, [.null, .int 0, .int 0]))])) (va_Qv (fun (_ : Nat) => True) (fun u t => PoS (dC, dI) (tyL cI cJ cG cZ) (wd_full_TA cI cJ cG cZ a0 u 0 0 (fun _ => 0)) (va_A ([(a0, .inr (6, [.null, .int 0, .int 0]))]) sz) t) (va_A ([(a0, .inr (6, [.null, .int 0, .int 0]))]) sz)) 1 12 (va_A ([(a0, .inr (6, [.null, .int 0, .int 0]))]) sz) := by
  refine Met.ofW (cc := prog_8_method_1_code) (maxL := 1) (ret := none) (by decide) rfl ?_
  intro p e s m args below meth c s₁ B hml hv
  obtain ⟨rfl, hsz, hP, hK, hD0, hNw⟩ := hv
  have hx := B.exec
  have hb := B.bytes
  have hr := B.returns
  have htt : ∀ w ∈ gtbl, w.before _ s = true := fun w h => atoms_spec (ws := us_TA_init) B.pre w (List.mem_cons_of_mem _ h)
  have hown : s.vm.findClass R_TA = some m.cls := findClass_of_methodNamed B.named
  have hlocks := B.notSynchronized
  have hin9 : meth.name = "<init>" := (name_of_methodNamed B.named B.method).1
  subst hsz
  have hD := hD0.self (sz := s.heap.size)
  generalize hAe : va_A ([(a0, .inr (6, [.null, .int 0, .int 0]))]) s.heap.size = A at hD ⊢
  have hA : ∀ q : Nat, s.heap.size ≤ q → A q := fun q h => by rw [← hAe]; exact Or.inr h
  clear hAe hD0
  have hS : va_S A s.heap s.heap [] := va_S.rf
  have hl := lv_entry ([.ref a0]) (n := 1) (Nat.le_of_ble_eq_true rfl)
  rw [lg_entry_eq]
  generalize (lg_sl ([.ref a0]) ++ List.replicate (1 - (lg_sl ([.ref a0])).length) Slot.unset).toArray = ls at hl ⊢
  have hl : lv_has ls 1 [(0, .ref a0)] := hl
  generalize hH : s.heap = H at hP ⊢
  have hS : va_S A s.heap H [] := hH ▸ hS
  generalize hLo : ([] : List Loc) = locs at hS ⊢
  clear hH hLo
  refine lv_aload_n hx hb d_TA_init_0 rfl (lv_at hl 0 rfl) ?_
  refine W.objInit hx hb hown (htt _ kt_192) (htt _ kt_24) (htt _ kt_obji) rfl (by rw [hml]; exact hl.1) rfl d_TA_init_1 (Nat.le_of_ble_eq_true rfl) (Nat.le_of_ble_eq_true rfl) ?_
  refine W.eq (g2 := F0 m 4 ls []) rfl ?_
  refine lv_aload_n hx hb d_TA_init_4 rfl (lv_at hl 0 rfl) ?_
  refine lv_bipush (v := 12) hx hb d_TA_init_5 (by decide) ?_
  refine gx_newI hx hb (htt _ kt_arrI) hK hP hD hS hA (n := 12) (N' := 12) (by decide) (by decide) (by decide) (Nat.le_of_ble_eq_true rfl) (Nat.le_of_ble_eq_true rfl) d_TA_init_7 (fun a0_sequence H hP hD hS => ?_)
  have hP : va_P (dC, dI) vwCl ([(a0, .inr (6, [.null, .int 0, .int 0])), (a0_sequence, .inl (cI, 12, .inl (fun _ => 0)))]) H := hP
  have hD : va_D A ([(a0, .inr (6, [.null, .int 0, .int 0])), (a0_sequence, .inl (cI, 12, .inl (fun _ => 0)))]) := hD
  refine va_putF (D := (dC, dI)) (ci := 6) (v := .ref a0_sequence) (ty := .array .int) (C := R_TA) (T := T_TA) (N := 3) hx hb htt hin_TA ty_TA tyok_TA nm_TA hown hK hP hD hS 0 rfl rfl 0 (by decide) (htt _ kt_193) (fun _ h9 => h9) rfl hin9 rfl (by decide +kernel) rfl rfl (Nat.le_of_ble_eq_true rfl) d_TA_init_9 (fun H locs hP hD hS => ?_)
  have hP : va_P (dC, dI) vwCl ([(a0, .inr (6, [.ref a0_sequence, .int 0, .int 0])), (a0_sequence, .inl (cI, 12, .inl (fun _ => 0)))]) H := hP
  have hD : va_D A ([(a0, .inr (6, [.ref a0_sequence, .int 0, .int 0])), (a0_sequence, .inl (cI, 12, .inl (fun _ => 0)))]) := hD
  have hP : va_P (dC, dI) vwCl (wd_full_TA cI cJ cG cZ a0 a0_sequence 0 0 (fun _ => 0)) H := hP.sub [0, 1] rfl
  have hD : va_D A (wd_full_TA cI cJ cG cZ a0 a0_sequence 0 0 (fun _ => 0)) := hD.sub [0, 1] (by decide) rfl
  exact W.vret hx hb hr (fun t ht hW => ⟨⟨a0_sequence, rfl, trivial, by rw [ht]; exact hP, va_K.moved hW.alike hK, hD⟩, hS.F ht⟩) hS.2.2 d_TA_init_12
theorem d_Gr_init_0 : decode prog_2_method_1_code 0 = .ok (.aload_n 0, 1) := by decide +kernel
theorem d_Gr_init_1 : decode prog_2_method_1_code 1 = .ok (.invokespecial 3, 3) := by decide +kernel
theorem d_Gr_init_4 : decode prog_2_method_1_code 4 = .ok (.aload_n 0, 1) := by decide +kernel
theorem d_Gr_init_5 : decode prog_2_method_1_code 5 = .ok (.bipush 12, 2) := by decide +kernel
theorem d_Gr_init_7 : decode prog_2_method_1_code 7 = .ok (.newarray .int, 2) := by decide +kernel
theorem d_Gr_init_9 : decode prog_2_method_1_code 9 = .ok (.putfield 9, 3) := by decide +kernel
theorem d_Gr_init_12 : decode prog_2_method_1_code 12 = .ok (.aload_n 0, 1) := by decide +kernel
theorem d_Gr_init_13 : decode prog_2_method_1_code 13 = .ok (.bipush 12, 2) := by decide +kernel
theorem d_Gr_init_15 : decode prog_2_method_1_code 15 = .ok (.newarray .int, 2) := by decide +kernel
theorem d_Gr_init_17 : decode prog_2_method_1_code 17 = .ok (.putfield 15, 3) := by decide +kernel
theorem d_Gr_init_20 : decode prog_2_method_1_code 20 = .ok (.aload_n 0, 1) := by decide +kernel
theorem d_Gr_init_21 : decode prog_2_method_1_code 21 = .ok (.getfield 9, 3) := by decide +kernel
theorem d_Gr_init_24 : decode prog_2_method_1_code 24 = .ok (.iconst (-1), 1) := by decide +kernel
theorem d_Gr_init_25 : decode prog_2_method_1_code 25 = .ok (.invokestatic 18, 3) := by decide +kernel
theorem d_Gr_init_28 : decode prog_2_method_1_code 28 = .ok (.return_, 1) := by decide +kernel
abbrev we_full_Gr (cI cJ cG cZ : ClassId) (a0 a0_tints a0_peeled : Nat) (w0_tints : Nat → Int32) (w0_peeled : Nat → Int32) : va_W := [(a0, .inr (7, [.ref a0_tints, .ref a0_peeled])), (a0_tints, .inl (cI, 12, .inl w0_tints)), (a0_peeled, .inl (cI, 12, .inl w0_peeled))]
abbrev wd_full_Gr (cI cJ cG cZ : ClassId) (a0 a0_tints a0_peeled : Nat) (w0_tints : Nat → Int32) (w0_peeled : Nat → Int32) : va_W := [(a0, .inr (7, [.ref a0_tints, .ref a0_peeled])), (a0_tints, .inl (cI, 12, .inl w0_tints)), (a0_peeled, .inl (cI, 12, .inl w0_peeled))]
abbrev us_Gr_init : List Cond := .code y_Gr_init prog_2_method_1_code 1 none :: gtbl
abbrev rm_Gr_init : Room := { frames := 1, cells := 2, slots := 24, locals := 24 }
set_option maxHeartbeats 4000000 in
set_option maxRecDepth 100000 in
theorem c_Gr_init (l : Launch) (dC : Nat → ClassId) (dI : Nat → Nat → Nat) (cI cJ cG cZ : ClassId) (a0 : Nat) (sz : Nat) : Met l y_Gr_init us_Gr_init rm_Gr_init (PcS (dC, dI) (tyL cI cJ cG cZ) [.ref a0] sz ([(a0, .inr (7, [.null, .null]))])) (va_Qv (fun (_ : Nat × Nat) => True) (fun u t => PoS (dC, dI) (tyL cI cJ cG cZ) (wd_full_Gr cI cJ cG cZ a0 u.1 u.2 (fillA 12 (-1) (fun _ => 0)) (fun _ => 0)) (va_A ([(a0, .inr (7, [.null, .null]))]) sz) t) (va_A ([(a0, .inr (7, [.null, .null]))]) sz)) 2 24 (va_A ([(a0, .inr (7, [.null, .null]))]) sz) := by
  refine Met.ofW (cc := prog_2_method_1_code) (maxL := 1) (ret := none) (by decide) rfl ?_
  intro p e s m args below meth c s₁ B hml hv
  obtain ⟨rfl, hsz, hP, hK, hD0, hNw⟩ := hv
  have hx := B.exec
  have hb := B.bytes
  have hr := B.returns
  have htt : ∀ w ∈ gtbl, w.before _ s = true := fun w h => atoms_spec (ws := us_Gr_init) B.pre w (List.mem_cons_of_mem _ h)
  have hown : s.vm.findClass R_Gr = some m.cls := findClass_of_methodNamed B.named
  have hlocks := B.notSynchronized
  have hin9 : meth.name = "<init>" := (name_of_methodNamed B.named B.method).1
  subst hsz
  have hD := hD0.self (sz := s.heap.size)
  generalize hAe : va_A ([(a0, .inr (7, [.null, .null]))]) s.heap.size = A at hD ⊢
  have hA : ∀ q : Nat, s.heap.size ≤ q → A q := fun q h => by rw [← hAe]; exact Or.inr h
  clear hAe hD0
  have hS : va_S A s.heap s.heap [] := va_S.rf
  have hl := lv_entry ([.ref a0]) (n := 1) (Nat.le_of_ble_eq_true rfl)
  rw [lg_entry_eq]
  generalize (lg_sl ([.ref a0]) ++ List.replicate (1 - (lg_sl ([.ref a0])).length) Slot.unset).toArray = ls at hl ⊢
  have hl : lv_has ls 1 [(0, .ref a0)] := hl
  generalize hH : s.heap = H at hP ⊢
  have hS : va_S A s.heap H [] := hH ▸ hS
  generalize hLo : ([] : List Loc) = locs at hS ⊢
  clear hH hLo
  refine lv_aload_n hx hb d_Gr_init_0 rfl (lv_at hl 0 rfl) ?_
  refine W.objInit hx hb hown (htt _ kt_211) (htt _ kt_24) (htt _ kt_obji) rfl (by rw [hml]; exact hl.1) rfl d_Gr_init_1 (Nat.le_of_ble_eq_true rfl) (Nat.le_of_ble_eq_true rfl) ?_
  refine W.eq (g2 := F0 m 4 ls []) rfl ?_
  refine lv_aload_n hx hb d_Gr_init_4 rfl (lv_at hl 0 rfl) ?_
  refine lv_bipush (v := 12) hx hb d_Gr_init_5 (by decide) ?_
  refine gx_newI hx hb (htt _ kt_arrI) hK hP hD hS hA (n := 12) (N' := 12) (by decide) (by decide) (by decide) (Nat.le_of_ble_eq_true rfl) (Nat.le_of_ble_eq_true rfl) d_Gr_init_7 (fun a0_tints H hP hD hS => ?_)
  have hP : va_P (dC, dI) vwCl ([(a0, .inr (7, [.null, .null])), (a0_tints, .inl (cI, 12, .inl (fun _ => 0)))]) H := hP
  have hD : va_D A ([(a0, .inr (7, [.null, .null])), (a0_tints, .inl (cI, 12, .inl (fun _ => 0)))]) := hD
  refine va_putF (D := (dC, dI)) (ci := 7) (v := .ref a0_tints) (ty := .array .int) (C := R_Gr) (T := T_Gr) (N := 2) hx hb htt hin_Gr ty_Gr tyok_Gr nm_Gr hown hK hP hD hS 0 rfl rfl 0 (by decide) (htt _ kt_215) (fun _ h9 => h9) rfl hin9 rfl (by decide +kernel) rfl rfl (Nat.le_of_ble_eq_true rfl) d_Gr_init_9 (fun H locs hP hD hS => ?_)
  have hP : va_P (dC, dI) vwCl ([(a0, .inr (7, [.ref a0_tints, .null])), (a0_tints, .inl (cI, 12, .inl (fun _ => 0)))]) H := hP
  have hD : va_D A ([(a0, .inr (7, [.ref a0_tints, .null])), (a0_tints, .inl (cI, 12, .inl (fun _ => 0)))]) := hD
  refine lv_aload_n hx hb d_Gr_init_12 rfl (lv_at hl 0 rfl) ?_
  refine lv_bipush (v := 12) hx hb d_Gr_init_13 (by decide) ?_
  refine gx_newI hx hb (htt _ kt_arrI) hK hP hD hS hA (n := 12) (N' := 12) (by decide) (by decide) (by decide) (Nat.le_of_ble_eq_true rfl) (Nat.le_of_ble_eq_true rfl) d_Gr_init_15 (fun a0_peeled H hP hD hS => ?_)
  have hP : va_P (dC, dI) vwCl ([(a0, .inr (7, [.ref a0_tints, .null])), (a0_tints, .inl (cI, 12, .inl (fun _ => 0))), (a0_peeled, .inl (cI, 12, .inl (fun _ => 0)))]) H := hP
  have hD : va_D A ([(a0, .inr (7, [.ref a0_tints, .null])), (a0_tints, .inl (cI, 12, .inl (fun _ => 0))), (a0_peeled, .inl (cI, 12, .inl (fun _ => 0)))]) := hD
  refine va_putF (D := (dC, dI)) (ci := 7) (v := .ref a0_peeled) (ty := .array .int) (C := R_Gr) (T := T_Gr) (N := 2) hx hb htt hin_Gr ty_Gr tyok_Gr nm_Gr hown hK hP hD hS 0 rfl rfl 1 (by decide) (htt _ kt_217) (fun _ h9 => h9) rfl hin9 rfl (by decide +kernel) rfl rfl (Nat.le_of_ble_eq_true rfl) d_Gr_init_17 (fun H locs hP hD hS => ?_)
  have hP : va_P (dC, dI) vwCl ([(a0, .inr (7, [.ref a0_tints, .ref a0_peeled])), (a0_tints, .inl (cI, 12, .inl (fun _ => 0))), (a0_peeled, .inl (cI, 12, .inl (fun _ => 0)))]) H := hP
  have hD : va_D A ([(a0, .inr (7, [.ref a0_tints, .ref a0_peeled])), (a0_tints, .inl (cI, 12, .inl (fun _ => 0))), (a0_peeled, .inl (cI, 12, .inl (fun _ => 0)))]) := hD
  refine lv_aload_n hx hb d_Gr_init_20 rfl (lv_at hl 0 rfl) ?_
  refine va_get (D := (dC, dI)) (ci := 7) (v := .ref a0_tints) (C := R_Gr) (T := T_Gr) (N := 2) hx hb htt hin_Gr hown hK hP 0 rfl rfl 0 (by decide) (htt _ kt_215) (fun _ h9 => h9) rfl d_Gr_init_21 ?_
  refine lv_iconst (v := (-1)) hx hb d_Gr_init_24 (by decide) ?_
  refine gx_filli hx hb hml hown htt kt_212 hK hNw hP hD hS hA 1 rfl (by decide) hl.1 (lv_room (Nat.le_of_ble_eq_true rfl)) (Nat.le_of_ble_eq_true rfl) (Nat.le_of_ble_eq_true rfl) (Nat.le_of_ble_eq_true rfl) (Nat.le_of_ble_eq_true rfl) d_Gr_init_25 (fun H locs hP hD hS => ?_)
  have hP : va_P (dC, dI) vwCl ([(a0, .inr (7, [.ref a0_tints, .ref a0_peeled])), (a0_tints, .inl (cI, 12, .inl (fillA 12 (-1) (fun _ => 0)))), (a0_peeled, .inl (cI, 12, .inl (fun _ => 0)))]) H := hP
  have hD : va_D A ([(a0, .inr (7, [.ref a0_tints, .ref a0_peeled])), (a0_tints, .inl (cI, 12, .inl (fillA 12 (-1) (fun _ => 0)))), (a0_peeled, .inl (cI, 12, .inl (fun _ => 0)))]) := hD
  have hP : va_P (dC, dI) vwCl (wd_full_Gr cI cJ cG cZ a0 a0_tints a0_peeled (fillA 12 (-1) (fun _ => 0)) (fun _ => 0)) H := hP.sub [0, 1, 2] rfl
  have hD : va_D A (wd_full_Gr cI cJ cG cZ a0 a0_tints a0_peeled (fillA 12 (-1) (fun _ => 0)) (fun _ => 0)) := hD.sub [0, 1, 2] (by decide) rfl
  exact W.vret hx hb hr (fun t ht hW => ⟨⟨(a0_tints, a0_peeled), rfl, trivial, by rw [ht]; exact hP, va_K.moved hW.alike hK, hD⟩, hS.F ht⟩) hS.2.2 d_Gr_init_28
