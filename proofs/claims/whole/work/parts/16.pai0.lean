theorem d_Pai_start_0 : decode prog_5_method_5_code 0 = .ok (.aload_n 0, 1) := by decide +kernel
theorem d_Pai_start_1 : decode prog_5_method_5_code 1 = .ok (.iload_n 1, 1) := by decide +kernel
theorem d_Pai_start_2 : decode prog_5_method_5_code 2 = .ok (.putfield 58, 3) := by decide +kernel
theorem d_Pai_start_5 : decode prog_5_method_5_code 5 = .ok (.aload_n 0, 1) := by decide +kernel
theorem d_Pai_start_6 : decode prog_5_method_5_code 6 = .ok (.iconst 0, 1) := by decide +kernel
theorem d_Pai_start_7 : decode prog_5_method_5_code 7 = .ok (.putfield 67, 3) := by decide +kernel
theorem d_Pai_start_10 : decode prog_5_method_5_code 10 = .ok (.aload_n 0, 1) := by decide +kernel
theorem d_Pai_start_11 : decode prog_5_method_5_code 11 = .ok (.bipush 12, 2) := by decide +kernel
theorem d_Pai_start_13 : decode prog_5_method_5_code 13 = .ok (.putfield 71, 3) := by decide +kernel
theorem d_Pai_start_16 : decode prog_5_method_5_code 16 = .ok (.aload_n 0, 1) := by decide +kernel
theorem d_Pai_start_17 : decode prog_5_method_5_code 17 = .ok (.bipush 16, 2) := by decide +kernel
theorem d_Pai_start_19 : decode prog_5_method_5_code 19 = .ok (.putfield 74, 3) := by decide +kernel
theorem d_Pai_start_22 : decode prog_5_method_5_code 22 = .ok (.aload_n 0, 1) := by decide +kernel
theorem d_Pai_start_23 : decode prog_5_method_5_code 23 = .ok (.iconst 0, 1) := by decide +kernel
theorem d_Pai_start_24 : decode prog_5_method_5_code 24 = .ok (.putfield 77, 3) := by decide +kernel
theorem d_Pai_start_27 : decode prog_5_method_5_code 27 = .ok (.aload_n 0, 1) := by decide +kernel
theorem d_Pai_start_28 : decode prog_5_method_5_code 28 = .ok (.iconst 0, 1) := by decide +kernel
theorem d_Pai_start_29 : decode prog_5_method_5_code 29 = .ok (.putfield 80, 3) := by decide +kernel
theorem d_Pai_start_32 : decode prog_5_method_5_code 32 = .ok (.aload_n 0, 1) := by decide +kernel
theorem d_Pai_start_33 : decode prog_5_method_5_code 33 = .ok (.getfield 23, 3) := by decide +kernel
theorem d_Pai_start_36 : decode prog_5_method_5_code 36 = .ok (.iconst 0, 1) := by decide +kernel
theorem d_Pai_start_37 : decode prog_5_method_5_code 37 = .ok (.invokestatic 43, 3) := by decide +kernel
theorem d_Pai_start_40 : decode prog_5_method_5_code 40 = .ok (.return_, 1) := by decide +kernel
abbrev wd_Pai_start (cI cJ cG cZ : ClassId) (a0 a0_paint a0_near a0_free a0_uses : Nat) (v0_items : Int32) (v0_evenly : Int32) (v0_palette : Int32) (v0_share : Int32) (v0_bigger : Int32) (v0_bigNow : Int32) (w0_uses : Nat → Int32) : va_W := [(a0, .inr (2, [.ref a0_paint, .ref a0_near, .ref a0_free, .ref a0_uses, .int v0_items, .int v0_evenly, .int v0_palette, .int v0_share, .int v0_bigger, .int v0_bigNow])), (a0_uses, .inl (cI, 12, .inl w0_uses))]
abbrev us_Pai_start : List Cond := .code y_Pai_start prog_5_method_5_code 2 none :: gtbl
abbrev rm_Pai_start : Room := { frames := 1, cells := 0, slots := 0, locals := 24 }
def m_Pai_start (F : Nat) (v0_items : Int32) (v0_evenly : Int32) (v0_palette : Int32) (v0_share : Int32) (v0_bigger : Int32) (v0_bigNow : Int32) (w0_uses : Nat → Int32) (p1 : Int32) : Option (Int32 × Int32 × Int32 × Int32 × Int32 × Int32 × (Nat → Int32)) :=
  some (p1, 0, 12, 16, 0, 0, fillA 12 (0 : Int32) w0_uses)
set_option maxHeartbeats 4000000 in
set_option maxRecDepth 100000 in
theorem c_Pai_start (l : Launch) (dC : Nat → ClassId) (dI : Nat → Nat → Nat) (cI cJ cG cZ : ClassId) (a0 a0_paint a0_near a0_free a0_uses : Nat) (sz : Nat) (F : Nat) (v0_items : Int32) (v0_evenly : Int32) (v0_palette : Int32) (v0_share : Int32) (v0_bigger : Int32) (v0_bigNow : Int32) (w0_uses : Nat → Int32) (p1 : Int32) (o_v0_items : Int32) (o_v0_evenly : Int32) (o_v0_palette : Int32) (o_v0_share : Int32) (o_v0_bigger : Int32) (o_v0_bigNow : Int32) (o_w0_uses : Nat → Int32) (hm : m_Pai_start F v0_items v0_evenly v0_palette v0_share v0_bigger v0_bigNow w0_uses p1 = some (o_v0_items, o_v0_evenly, o_v0_palette, o_v0_share, o_v0_bigger, o_v0_bigNow, o_w0_uses)) : Met l y_Pai_start us_Pai_start rm_Pai_start (PcS (dC, dI) (tyL cI cJ cG cZ) [.ref a0, .int p1] sz (wd_Pai_start cI cJ cG cZ a0 a0_paint a0_near a0_free a0_uses v0_items v0_evenly v0_palette v0_share v0_bigger v0_bigNow w0_uses)) (va_Qv (fun (_ : Unit) => True) (fun _ t => PoS (dC, dI) (tyL cI cJ cG cZ) (wd_Pai_start cI cJ cG cZ a0 a0_paint a0_near a0_free a0_uses o_v0_items o_v0_evenly o_v0_palette o_v0_share o_v0_bigger o_v0_bigNow o_w0_uses) (va_A (wd_Pai_start cI cJ cG cZ a0 a0_paint a0_near a0_free a0_uses v0_items v0_evenly v0_palette v0_share v0_bigger v0_bigNow w0_uses) sz) t) (va_A (wd_Pai_start cI cJ cG cZ a0 a0_paint a0_near a0_free a0_uses v0_items v0_evenly v0_palette v0_share v0_bigger v0_bigNow w0_uses) sz)) 0 0 (va_A (wd_Pai_start cI cJ cG cZ a0 a0_paint a0_near a0_free a0_uses v0_items v0_evenly v0_palette v0_share v0_bigger v0_bigNow w0_uses) sz) := by
  refine Met.ofW (cc := prog_5_method_5_code) (maxL := 2) (ret := none) (by decide) rfl ?_
  intro p e s m args below meth c s₁ B hml hv
  obtain ⟨rfl, hsz, hP, hK, hD0, hNw⟩ := hv
  have hx := B.exec
  have hb := B.bytes
  have hr := B.returns
  have htt : ∀ w ∈ gtbl, w.before _ s = true := fun w h => atoms_spec (ws := us_Pai_start) B.pre w (List.mem_cons_of_mem _ h)
  have hown : s.vm.findClass R_Pai = some m.cls := findClass_of_methodNamed B.named
  have hlocks := B.notSynchronized
  subst hsz
  have hD := hD0.self (sz := s.heap.size)
  generalize hAe : va_A (wd_Pai_start cI cJ cG cZ a0 a0_paint a0_near a0_free a0_uses v0_items v0_evenly v0_palette v0_share v0_bigger v0_bigNow w0_uses) s.heap.size = A at hD ⊢
  have hA : ∀ q : Nat, s.heap.size ≤ q → A q := fun q h => by rw [← hAe]; exact Or.inr h
  clear hAe hD0
  have hS : va_S A s.heap s.heap [] := va_S.rf
  have hl := lv_entry ([.ref a0, .int p1]) (n := 2) (Nat.le_of_ble_eq_true rfl)
  rw [lg_entry_eq]
  generalize (lg_sl ([.ref a0, .int p1]) ++ List.replicate (2 - (lg_sl ([.ref a0, .int p1])).length) Slot.unset).toArray = ls at hl ⊢
  have hl : lv_has ls 2 [(0, .ref a0), (1, .int p1)] := hl
  generalize hH : s.heap = H at hP ⊢
  have hS : va_S A s.heap H [] := hH ▸ hS
  generalize hLo : ([] : List Loc) = locs at hS ⊢
  clear hH hLo
  unfold m_Pai_start at hm
  refine lv_aload_n hx hb d_Pai_start_0 rfl (lv_at hl 0 rfl) ?_
  refine lv_iload_n hx hb d_Pai_start_1 rfl (lv_at hl 1 rfl) ?_
  refine va_put (D := (dC, dI)) (ci := 2) (v := .int p1) (ty := .int) (C := R_Pai) (T := T_Pai) (N := 10) hx hb htt hin_Pai ty_Pai tyok_Pai nm_Pai hown hK hP hD hS 0 rfl rfl 4 (by decide) (htt _ kt_86) (fun _ h9 => h9) rfl (by decide +kernel) rfl rfl (Nat.le_of_ble_eq_true rfl) d_Pai_start_2 (fun H locs hP hD hS => ?_)
  have hP : va_P (dC, dI) vwCl (wd_Pai_start cI cJ cG cZ a0 a0_paint a0_near a0_free a0_uses p1 v0_evenly v0_palette v0_share v0_bigger v0_bigNow w0_uses) H := hP
  have hD : va_D A (wd_Pai_start cI cJ cG cZ a0 a0_paint a0_near a0_free a0_uses p1 v0_evenly v0_palette v0_share v0_bigger v0_bigNow w0_uses) := hD
  refine lv_aload_n hx hb d_Pai_start_5 rfl (lv_at hl 0 rfl) ?_
  refine lv_iconst (v := 0) hx hb d_Pai_start_6 (by decide) ?_
  refine va_put (D := (dC, dI)) (ci := 2) (v := .int 0) (ty := .boolean) (C := R_Pai) (T := T_Pai) (N := 10) hx hb htt hin_Pai ty_Pai tyok_Pai nm_Pai hown hK hP hD hS 0 rfl rfl 5 (by decide) (htt _ kt_87) (fun _ h9 => h9) rfl (by decide +kernel) rfl (by decide) (Nat.le_of_ble_eq_true rfl) d_Pai_start_7 (fun H locs hP hD hS => ?_)
  have hP : va_P (dC, dI) vwCl (wd_Pai_start cI cJ cG cZ a0 a0_paint a0_near a0_free a0_uses p1 0 v0_palette v0_share v0_bigger v0_bigNow w0_uses) H := hP
  have hD : va_D A (wd_Pai_start cI cJ cG cZ a0 a0_paint a0_near a0_free a0_uses p1 0 v0_palette v0_share v0_bigger v0_bigNow w0_uses) := hD
  refine lv_aload_n hx hb d_Pai_start_10 rfl (lv_at hl 0 rfl) ?_
  refine lv_bipush (v := 12) hx hb d_Pai_start_11 (by decide) ?_
  refine va_put (D := (dC, dI)) (ci := 2) (v := .int 12) (ty := .int) (C := R_Pai) (T := T_Pai) (N := 10) hx hb htt hin_Pai ty_Pai tyok_Pai nm_Pai hown hK hP hD hS 0 rfl rfl 6 (by decide) (htt _ kt_88) (fun _ h9 => h9) rfl (by decide +kernel) rfl rfl (Nat.le_of_ble_eq_true rfl) d_Pai_start_13 (fun H locs hP hD hS => ?_)
  have hP : va_P (dC, dI) vwCl (wd_Pai_start cI cJ cG cZ a0 a0_paint a0_near a0_free a0_uses p1 0 12 v0_share v0_bigger v0_bigNow w0_uses) H := hP
  have hD : va_D A (wd_Pai_start cI cJ cG cZ a0 a0_paint a0_near a0_free a0_uses p1 0 12 v0_share v0_bigger v0_bigNow w0_uses) := hD
  refine lv_aload_n hx hb d_Pai_start_16 rfl (lv_at hl 0 rfl) ?_
  refine lv_bipush (v := 16) hx hb d_Pai_start_17 (by decide) ?_
  refine va_put (D := (dC, dI)) (ci := 2) (v := .int 16) (ty := .int) (C := R_Pai) (T := T_Pai) (N := 10) hx hb htt hin_Pai ty_Pai tyok_Pai nm_Pai hown hK hP hD hS 0 rfl rfl 7 (by decide) (htt _ kt_89) (fun _ h9 => h9) rfl (by decide +kernel) rfl rfl (Nat.le_of_ble_eq_true rfl) d_Pai_start_19 (fun H locs hP hD hS => ?_)
  have hP : va_P (dC, dI) vwCl (wd_Pai_start cI cJ cG cZ a0 a0_paint a0_near a0_free a0_uses p1 0 12 16 v0_bigger v0_bigNow w0_uses) H := hP
  have hD : va_D A (wd_Pai_start cI cJ cG cZ a0 a0_paint a0_near a0_free a0_uses p1 0 12 16 v0_bigger v0_bigNow w0_uses) := hD
  refine lv_aload_n hx hb d_Pai_start_22 rfl (lv_at hl 0 rfl) ?_
  refine lv_iconst (v := 0) hx hb d_Pai_start_23 (by decide) ?_
  refine va_put (D := (dC, dI)) (ci := 2) (v := .int 0) (ty := .int) (C := R_Pai) (T := T_Pai) (N := 10) hx hb htt hin_Pai ty_Pai tyok_Pai nm_Pai hown hK hP hD hS 0 rfl rfl 8 (by decide) (htt _ kt_90) (fun _ h9 => h9) rfl (by decide +kernel) rfl rfl (Nat.le_of_ble_eq_true rfl) d_Pai_start_24 (fun H locs hP hD hS => ?_)
  have hP : va_P (dC, dI) vwCl (wd_Pai_start cI cJ cG cZ a0 a0_paint a0_near a0_free a0_uses p1 0 12 16 0 v0_bigNow w0_uses) H := hP
  have hD : va_D A (wd_Pai_start cI cJ cG cZ a0 a0_paint a0_near a0_free a0_uses p1 0 12 16 0 v0_bigNow w0_uses) := hD
  refine lv_aload_n hx hb d_Pai_start_27 rfl (lv_at hl 0 rfl) ?_
  refine lv_iconst (v := 0) hx hb d_Pai_start_28 (by decide) ?_
  refine va_put (D := (dC, dI)) (ci := 2) (v := .int 0) (ty := .int) (C := R_Pai) (T := T_Pai) (N := 10) hx hb htt hin_Pai ty_Pai tyok_Pai nm_Pai hown hK hP hD hS 0 rfl rfl 9 (by decide) (htt _ kt_91) (fun _ h9 => h9) rfl (by decide +kernel) rfl rfl (Nat.le_of_ble_eq_true rfl) d_Pai_start_29 (fun H locs hP hD hS => ?_)
  have hP : va_P (dC, dI) vwCl (wd_Pai_start cI cJ cG cZ a0 a0_paint a0_near a0_free a0_uses p1 0 12 16 0 0 w0_uses) H := hP
  have hD : va_D A (wd_Pai_start cI cJ cG cZ a0 a0_paint a0_near a0_free a0_uses p1 0 12 16 0 0 w0_uses) := hD
  refine lv_aload_n hx hb d_Pai_start_32 rfl (lv_at hl 0 rfl) ?_
  refine va_get (D := (dC, dI)) (ci := 2) (v := .ref a0_uses) (C := R_Pai) (T := T_Pai) (N := 10) hx hb htt hin_Pai hown hK hP 0 rfl rfl 3 (by decide) (htt _ kt_85) (fun _ h9 => h9) rfl d_Pai_start_33 ?_
  refine lv_iconst (v := 0) hx hb d_Pai_start_36 (by decide) ?_
  refine gx_filli hx hb hml hown htt kt_302 hK hNw hP hD hS hA 1 rfl (by decide) hl.1 (lv_room (Nat.le_of_ble_eq_true rfl)) (Nat.le_of_ble_eq_true rfl) (Nat.le_of_ble_eq_true rfl) (Nat.zero_le _) (Nat.zero_le _) d_Pai_start_37 (fun H locs hP hD hS => ?_)
  have hP : va_P (dC, dI) vwCl (wd_Pai_start cI cJ cG cZ a0 a0_paint a0_near a0_free a0_uses p1 0 12 16 0 0 (fillA 12 (0 : Int32) w0_uses)) H := hP
  have hD : va_D A (wd_Pai_start cI cJ cG cZ a0 a0_paint a0_near a0_free a0_uses p1 0 12 16 0 0 (fillA 12 (0 : Int32) w0_uses)) := hD
  cases hm
  exact W.vret hx hb hr (fun t ht hW => ⟨⟨(), rfl, trivial, by rw [ht]; exact hP, va_K.moved hW.alike hK, hD⟩, hS.F ht⟩) hS.2.2 d_Pai_start_40
theorem d_Pai_startNodes_0 : decode prog_5_method_2_code 0 = .ok (.aload_n 0, 1) := by decide +kernel
theorem d_Pai_startNodes_1 : decode prog_5_method_2_code 1 = .ok (.aload_n 1, 1) := by decide +kernel
theorem d_Pai_startNodes_2 : decode prog_5_method_2_code 2 = .ok (.getfield 26, 3) := by decide +kernel
theorem d_Pai_startNodes_5 : decode prog_5_method_2_code 5 = .ok (.invokevirtual 32, 3) := by decide +kernel
theorem d_Pai_startNodes_8 : decode prog_5_method_2_code 8 = .ok (.aload_n 1, 1) := by decide +kernel
theorem d_Pai_startNodes_9 : decode prog_5_method_2_code 9 = .ok (.getfield 36, 3) := by decide +kernel
theorem d_Pai_startNodes_12 : decode prog_5_method_2_code 12 = .ok (.iconst 0, 1) := by decide +kernel
theorem d_Pai_startNodes_13 : decode prog_5_method_2_code 13 = .ok (.aload_n 0, 1) := by decide +kernel
theorem d_Pai_startNodes_14 : decode prog_5_method_2_code 14 = .ok (.getfield 15, 3) := by decide +kernel
theorem d_Pai_startNodes_17 : decode prog_5_method_2_code 17 = .ok (.iconst 0, 1) := by decide +kernel
theorem d_Pai_startNodes_18 : decode prog_5_method_2_code 18 = .ok (.aload_n 1, 1) := by decide +kernel
theorem d_Pai_startNodes_19 : decode prog_5_method_2_code 19 = .ok (.getfield 26, 3) := by decide +kernel
theorem d_Pai_startNodes_22 : decode prog_5_method_2_code 22 = .ok (.invokestatic 37, 3) := by decide +kernel
theorem d_Pai_startNodes_25 : decode prog_5_method_2_code 25 = .ok (.aload_n 0, 1) := by decide +kernel
theorem d_Pai_startNodes_26 : decode prog_5_method_2_code 26 = .ok (.getfield 20, 3) := by decide +kernel
theorem d_Pai_startNodes_29 : decode prog_5_method_2_code 29 = .ok (.iconst 0, 1) := by decide +kernel
theorem d_Pai_startNodes_30 : decode prog_5_method_2_code 30 = .ok (.aaload, 1) := by decide +kernel
theorem d_Pai_startNodes_31 : decode prog_5_method_2_code 31 = .ok (.iload_n 2, 1) := by decide +kernel
theorem d_Pai_startNodes_32 : decode prog_5_method_2_code 32 = .ok (.invokestatic 43, 3) := by decide +kernel
theorem d_Pai_startNodes_35 : decode prog_5_method_2_code 35 = .ok (.return_, 1) := by decide +kernel
abbrev wd_Pai_startNodes (cI cJ cG cZ : ClassId) (a0 a1 a0_paint a0_near a0_free a0_uses a1_near a1_tail a1_head : Nat) (r0_free : Nat → Nat) (v0_items : Int32) (v0_evenly : Int32) (v0_palette : Int32) (v0_share : Int32) (v0_bigger : Int32) (v0_bigNow : Int32) (w0_near : Nat → Int32) (w0_uses : Nat → Int32) (v1_nodes : Int32) (v1_arcCount : Int32) (v1_version : Int32) (w1_near : Nat → Int32) (w0_free : Nat → Nat → Int32) : va_W := [(a0, .inr (2, [.ref a0_paint, .ref a0_near, .ref a0_free, .ref a0_uses, .int v0_items, .int v0_evenly, .int v0_palette, .int v0_share, .int v0_bigger, .int v0_bigNow])), (a0_near, .inl (cI, 16, .inl w0_near)), (a0_free, .inl (cG, 18, .inr (.inr (.inr (.inr (gO r0_free 18)))))), (a0_uses, .inl (cI, 12, .inl w0_uses)), (a1, .inr (1, [.ref a1_near, .ref a1_tail, .ref a1_head, .int v1_nodes, .int v1_arcCount, .int v1_version])), (a1_near, .inl (cI, 12, .inl w1_near))] ++ rowsW r0_free cI 16 18 w0_free
abbrev we_Pai_startNodes (cI cJ cG cZ : ClassId) (a0 a1 a0_paint a0_near a0_free a0_uses a1_near a1_tail a1_head : Nat) (r0_free : Nat → Nat) (v0_items : Int32) (v0_evenly : Int32) (v0_palette : Int32) (v0_share : Int32) (v0_bigger : Int32) (v0_bigNow : Int32) (w0_near : Nat → Int32) (w0_uses : Nat → Int32) (v1_nodes : Int32) (v1_arcCount : Int32) (v1_version : Int32) (w1_near : Nat → Int32) (w0_free : Nat → Nat → Int32) : va_W := [(a0, .inr (2, [.ref a0_paint, .ref a0_near, .ref a0_free, .ref a0_uses, .int v0_items, .int v0_evenly, .int v0_palette, .int v0_share, .int v0_bigger, .int v0_bigNow])), (a0_near, .inl (cI, 16, .inl w0_near)), (a0_free, .inl (cG, 18, .inr (.inr (.inr (.inr (gO r0_free 18)))))), (a0_uses, .inl (cI, 12, .inl w0_uses)), (a1, .inr (1, [.ref a1_near, .ref a1_tail, .ref a1_head, .int v1_nodes, .int v1_arcCount, .int v1_version])), (a1_near, .inl (cI, 12, .inl w1_near))]
abbrev us_Pai_startNodes : List Cond := .code y_Pai_startNodes prog_5_method_2_code 3 none :: gtbl
abbrev rm_Pai_startNodes : Room := { frames := 2, cells := 0, slots := 0, locals := 45 }
def m_Pai_startNodes (F : Nat) (v0_items : Int32) (v0_evenly : Int32) (v0_palette : Int32) (v0_share : Int32) (v0_bigger : Int32) (v0_bigNow : Int32) (w0_near : Nat → Int32) (w0_uses : Nat → Int32) (v1_nodes : Int32) (v1_arcCount : Int32) (v1_version : Int32) (w1_near : Nat → Int32) (w0_free : Nat → Nat → Int32) (p2 : Int32) : Option (Int32 × Int32 × Int32 × Int32 × Int32 × Int32 × (Nat → Int32) × (Nat → Int32) × (Nat → Nat → Int32)) :=
  gM (m_Pai_start F v0_items v0_evenly v0_palette v0_share v0_bigger v0_bigNow w0_uses v1_nodes) (fun (z_9 : Int32 × Int32 × Int32 × Int32 × Int32 × Int32 × (Nat → Int32)) => match z_9 with
  | (v0_items_1, v0_evenly_2, v0_palette_3, v0_share_4, v0_bigger_5, v0_bigNow_6, w0_uses_7) =>
  gC (cpyB (0 : Int32) (0 : Int32) v1_nodes 12 16) (
  gC (inb 0 18) (
  some (v0_items_1, v0_evenly_2, v0_palette_3, v0_share_4, v0_bigger_5, v0_bigNow_6, va_cpy w1_near w0_near (0 : Int32).toNatClampNeg (0 : Int32).toNatClampNeg v1_nodes.toNatClampNeg, w0_uses_7, gF w0_free ((0 : Int32).toNatClampNeg) (fillA 16 p2 (w0_free ((0 : Int32).toNatClampNeg)))))))
set_option maxHeartbeats 4000000 in
set_option maxRecDepth 100000 in
theorem c_Pai_startNodes (l : Launch) (dC : Nat → ClassId) (dI : Nat → Nat → Nat) (cI cJ cG cZ : ClassId) (a0 a1 a0_paint a0_near a0_free a0_uses a1_near a1_tail a1_head : Nat) (r0_free : Nat → Nat) (sz : Nat) (F : Nat) (v0_items : Int32) (v0_evenly : Int32) (v0_palette : Int32) (v0_share : Int32) (v0_bigger : Int32) (v0_bigNow : Int32) (w0_near : Nat → Int32) (w0_uses : Nat → Int32) (v1_nodes : Int32) (v1_arcCount : Int32) (v1_version : Int32) (w1_near : Nat → Int32) (w0_free : Nat → Nat → Int32) (p2 : Int32) (o_v0_items : Int32) (o_v0_evenly : Int32) (o_v0_palette : Int32) (o_v0_share : Int32) (o_v0_bigger : Int32) (o_v0_bigNow : Int32) (o_w0_near : Nat → Int32) (o_w0_uses : Nat → Int32) (o_w0_free : Nat → Nat → Int32) (hm : m_Pai_startNodes F v0_items v0_evenly v0_palette v0_share v0_bigger v0_bigNow w0_near w0_uses v1_nodes v1_arcCount v1_version w1_near w0_free p2 = some (o_v0_items, o_v0_evenly, o_v0_palette, o_v0_share, o_v0_bigger, o_v0_bigNow, o_w0_near, o_w0_uses, o_w0_free)) : Met l y_Pai_startNodes us_Pai_startNodes rm_Pai_startNodes (PcS (dC, dI) (tyL cI cJ cG cZ) [.ref a0, .ref a1, .int p2] sz (wd_Pai_startNodes cI cJ cG cZ a0 a1 a0_paint a0_near a0_free a0_uses a1_near a1_tail a1_head r0_free v0_items v0_evenly v0_palette v0_share v0_bigger v0_bigNow w0_near w0_uses v1_nodes v1_arcCount v1_version w1_near w0_free)) (va_Qv (fun (_ : Unit) => True) (fun _ t => PoS (dC, dI) (tyL cI cJ cG cZ) (wd_Pai_startNodes cI cJ cG cZ a0 a1 a0_paint a0_near a0_free a0_uses a1_near a1_tail a1_head r0_free o_v0_items o_v0_evenly o_v0_palette o_v0_share o_v0_bigger o_v0_bigNow o_w0_near o_w0_uses v1_nodes v1_arcCount v1_version w1_near o_w0_free) (va_A (wd_Pai_startNodes cI cJ cG cZ a0 a1 a0_paint a0_near a0_free a0_uses a1_near a1_tail a1_head r0_free v0_items v0_evenly v0_palette v0_share v0_bigger v0_bigNow w0_near w0_uses v1_nodes v1_arcCount v1_version w1_near w0_free) sz) t) (va_A (wd_Pai_startNodes cI cJ cG cZ a0 a1 a0_paint a0_near a0_free a0_uses a1_near a1_tail a1_head r0_free v0_items v0_evenly v0_palette v0_share v0_bigger v0_bigNow w0_near w0_uses v1_nodes v1_arcCount v1_version w1_near w0_free) sz)) 0 0 (va_A (wd_Pai_startNodes cI cJ cG cZ a0 a1 a0_paint a0_near a0_free a0_uses a1_near a1_tail a1_head r0_free v0_items v0_evenly v0_palette v0_share v0_bigger v0_bigNow w0_near w0_uses v1_nodes v1_arcCount v1_version w1_near w0_free) sz) := by
  refine Met.ofW (cc := prog_5_method_2_code) (maxL := 3) (ret := none) (by decide) rfl ?_
  intro p e s m args below meth c s₁ B hml hv
  obtain ⟨rfl, hsz, hP, hK, hD0, hNw⟩ := hv
  have hx := B.exec
  have hb := B.bytes
  have hr := B.returns
  have htt : ∀ w ∈ gtbl, w.before _ s = true := fun w h => atoms_spec (ws := us_Pai_startNodes) B.pre w (List.mem_cons_of_mem _ h)
  have hown : s.vm.findClass R_Pai = some m.cls := findClass_of_methodNamed B.named
  have hlocks := B.notSynchronized
  subst hsz
  have hD := hD0.self (sz := s.heap.size)
  generalize hAe : va_A (wd_Pai_startNodes cI cJ cG cZ a0 a1 a0_paint a0_near a0_free a0_uses a1_near a1_tail a1_head r0_free v0_items v0_evenly v0_palette v0_share v0_bigger v0_bigNow w0_near w0_uses v1_nodes v1_arcCount v1_version w1_near w0_free) s.heap.size = A at hD ⊢
  have hA : ∀ q : Nat, s.heap.size ≤ q → A q := fun q h => by rw [← hAe]; exact Or.inr h
  clear hAe hD0
  have hS : va_S A s.heap s.heap [] := va_S.rf
  have hl := lv_entry ([.ref a0, .ref a1, .int p2]) (n := 3) (Nat.le_of_ble_eq_true rfl)
  rw [lg_entry_eq]
  generalize (lg_sl ([.ref a0, .ref a1, .int p2]) ++ List.replicate (3 - (lg_sl ([.ref a0, .ref a1, .int p2])).length) Slot.unset).toArray = ls at hl ⊢
  have hl : lv_has ls 3 [(0, .ref a0), (1, .ref a1), (2, .int p2)] := hl
  generalize hH : s.heap = H at hP ⊢
  have hS : va_S A s.heap H [] := hH ▸ hS
  generalize hLo : ([] : List Loc) = locs at hS ⊢
  clear hH hLo
  unfold m_Pai_startNodes at hm
  refine lv_aload_n hx hb d_Pai_startNodes_0 rfl (lv_at hl 0 rfl) ?_
  refine lv_aload_n hx hb d_Pai_startNodes_1 rfl (lv_at hl 1 rfl) ?_
  refine va_get (D := (dC, dI)) (ci := 1) (v := .int v1_nodes) (C := R_Net) (T := T_Net) (N := 6) hx hb htt hin_Net hown hK hP 4 rfl rfl 3 (by decide) (htt _ kt_45) (fun _ h9 => h9) rfl d_Pai_startNodes_2 ?_
  obtain ⟨⟨v0_items_1, v0_evenly_2, v0_palette_3, v0_share_4, v0_bigger_5, v0_bigNow_6, w0_uses_7⟩, hc_8, hm⟩ := gM_e hm
  dsimp only at hm
  have hPc : va_P (dC, dI) vwCl (wd_Pai_start cI cJ cG cZ a0 a0_paint a0_near a0_free a0_uses v0_items v0_evenly v0_palette v0_share v0_bigger v0_bigNow w0_uses) H := hP.sub [0, 3] rfl
  have hDc : va_D A (wd_Pai_start cI cJ cG cZ a0 a0_paint a0_near a0_free a0_uses v0_items v0_evenly v0_palette v0_share v0_bigger v0_bigNow w0_uses) := hD.sub [0, 3] (by decide) rfl
  have hFc : ∀ q, va_A (wd_Pai_start cI cJ cG cZ a0 a0_paint a0_near a0_free a0_uses v0_items v0_evenly v0_palette v0_share v0_bigger v0_bigNow w0_uses) H.size q → A q := va_free hD hS hA [0, 3] rfl
  refine va_callv (va_runV (As := [.int v1_nodes]) (rest := []) ⟨hx, hb, hml, hown, htt⟩ (c_Pai_start l dC dI cI cJ cG cZ a0 a0_paint a0_near a0_free a0_uses H.size F v0_items v0_evenly v0_palette v0_share v0_bigger v0_bigNow w0_uses v1_nodes v0_items_1 v0_evenly_2 v0_palette_3 v0_share_4 v0_bigger_5 v0_bigNow_6 w0_uses_7 hc_8) (cwV 1 htt (gdV kt_298 kt_300 kp_0 kt_3 kt_301) rfl rfl rfl (by decide +kernel) ⟨(Nat.le_of_ble_eq_true rfl), (Nat.le_of_ble_eq_true rfl)⟩) ⟨PcS_blind, va_recv hK hPc (ci := 2) (q0 := 0) rfl rfl, PcS_in hPc hK hDc hNw⟩ rfl rfl hl.1 rfl (lv_room (Nat.le_of_ble_eq_true rfl)) d_Pai_startNodes_5 ⟨Nat.zero_le _, Nat.zero_le _⟩) hS (fun q _ h => hFc q h) hFc (fun u t H1 locs ht hvm hw hB hz1 hk1 hS => ?_)
  obtain ⟨hP1, hK1, hD1⟩ := hB
  rw [ht] at hP1
  obtain ⟨hP, hD⟩ := va_joinQ (wr := [(a0_near, .inl (cI, 16, .inl w0_near)), (a0_free, .inl (cG, 18, .inr (.inr (.inr (.inr (gO r0_free 18)))))), (a1, .inr (1, [.ref a1_near, .ref a1_tail, .ref a1_head, .int v1_nodes, .int v1_arcCount, .int v1_version])), (a1_near, .inl (cI, 12, .inl w1_near))]) (w1 := (wd_Pai_start cI cJ cG cZ a0 a0_paint a0_near a0_free a0_uses v0_items_1 v0_evenly_2 v0_palette_3 v0_share_4 v0_bigger_5 v0_bigNow_6 w0_uses_7)) hP hD [0, 3] [1, 2, 4, 5] rfl rfl (by decide) (by decide) hk1 hFc hP1 hD1
  have hP : va_P (dC, dI) vwCl (wd_Pai_startNodes cI cJ cG cZ a0 a1 a0_paint a0_near a0_free a0_uses a1_near a1_tail a1_head r0_free v0_items_1 v0_evenly_2 v0_palette_3 v0_share_4 v0_bigger_5 v0_bigNow_6 w0_near w0_uses_7 v1_nodes v1_arcCount v1_version w1_near w0_free) H1 := hP.part [4, 0, 1, 5, 2, 3] rfl
  have hD : va_D A (wd_Pai_startNodes cI cJ cG cZ a0 a1 a0_paint a0_near a0_free a0_uses a1_near a1_tail a1_head r0_free v0_items_1 v0_evenly_2 v0_palette_3 v0_share_4 v0_bigger_5 v0_bigNow_6 w0_near w0_uses_7 v1_nodes v1_arcCount v1_version w1_near w0_free) := hD.part [4, 0, 1, 5, 2, 3] (by decide) rfl
  clear hP1 hK1 hD1 hk1 hPc hDc hFc ht hvm hz1
  generalize H1 = H at hP hS ⊢
  refine lv_aload_n hx hb d_Pai_startNodes_8 rfl (lv_at hl 1 rfl) ?_
  refine va_get (D := (dC, dI)) (ci := 1) (v := .ref a1_near) (C := R_Net) (T := T_Net) (N := 6) hx hb htt hin_Net hown hK hP 4 rfl rfl 0 (by decide) (htt _ kt_34) (fun _ h9 => h9) rfl d_Pai_startNodes_9 ?_
  refine lv_iconst (v := 0) hx hb d_Pai_startNodes_12 (by decide) ?_
  refine lv_aload_n hx hb d_Pai_startNodes_13 rfl (lv_at hl 0 rfl) ?_
  refine va_get (D := (dC, dI)) (ci := 2) (v := .ref a0_near) (C := R_Pai) (T := T_Pai) (N := 10) hx hb htt hin_Pai hown hK hP 0 rfl rfl 1 (by decide) (htt _ kt_83) (fun _ h9 => h9) rfl d_Pai_startNodes_14 ?_
  refine lv_iconst (v := 0) hx hb d_Pai_startNodes_17 (by decide) ?_
  refine lv_aload_n hx hb d_Pai_startNodes_18 rfl (lv_at hl 1 rfl) ?_
  refine va_get (D := (dC, dI)) (ci := 1) (v := .int v1_nodes) (C := R_Net) (T := T_Net) (N := 6) hx hb htt hin_Net hown hK hP 4 rfl rfl 3 (by decide) (htt _ kt_45) (fun _ h9 => h9) rfl d_Pai_startNodes_19 ?_
  obtain ⟨hy_10, hm⟩ := gC_e hm
  refine gx_copy hx hb hml hown htt kt_303 hK hP hD hS 5 1 rfl rfl hy_10 hl.1 (lv_room (Nat.le_of_ble_eq_true rfl)) (Nat.le_of_ble_eq_true rfl) (Nat.le_of_ble_eq_true rfl) d_Pai_startNodes_22 (fun H locs hP hD hS => ?_)
  have hP : va_P (dC, dI) vwCl (wd_Pai_startNodes cI cJ cG cZ a0 a1 a0_paint a0_near a0_free a0_uses a1_near a1_tail a1_head r0_free v0_items_1 v0_evenly_2 v0_palette_3 v0_share_4 v0_bigger_5 v0_bigNow_6 (va_cpy w1_near w0_near (0 : Int32).toNatClampNeg (0 : Int32).toNatClampNeg v1_nodes.toNatClampNeg) w0_uses_7 v1_nodes v1_arcCount v1_version w1_near w0_free) H := hP
  have hD : va_D A (wd_Pai_startNodes cI cJ cG cZ a0 a1 a0_paint a0_near a0_free a0_uses a1_near a1_tail a1_head r0_free v0_items_1 v0_evenly_2 v0_palette_3 v0_share_4 v0_bigger_5 v0_bigNow_6 (va_cpy w1_near w0_near (0 : Int32).toNatClampNeg (0 : Int32).toNatClampNeg v1_nodes.toNatClampNeg) w0_uses_7 v1_nodes v1_arcCount v1_version w1_near w0_free) := hD
  refine lv_aload_n hx hb d_Pai_startNodes_25 rfl (lv_at hl 0 rfl) ?_
  refine va_get (D := (dC, dI)) (ci := 2) (v := .ref a0_free) (C := R_Pai) (T := T_Pai) (N := 10) hx hb htt hin_Pai hown hK hP 0 rfl rfl 2 (by decide) (htt _ kt_84) (fun _ h9 => h9) rfl d_Pai_startNodes_26 ?_
  refine lv_iconst (v := 0) hx hb d_Pai_startNodes_29 (by decide) ?_
  obtain ⟨hi_11, hm⟩ := gC_e hm
  have hj_12 := inb_lt hi_11
  refine gx_ald hx hb hK hP 2 2 rfl rfl (inb_vp hi_11) d_Pai_startNodes_30 ?_
  refine lv_iload_n hx hb d_Pai_startNodes_31 rfl (lv_at hl 2 rfl) ?_
  refine gx_filli hx hb hml hown htt kt_302 hK hNw hP hD hS hA (6 + (0 : Int32).toNatClampNeg) (rows_get rfl hj_12) (by decide) hl.1 (lv_room (Nat.le_of_ble_eq_true rfl)) (Nat.le_of_ble_eq_true rfl) (Nat.le_of_ble_eq_true rfl) (Nat.zero_le _) (Nat.zero_le _) d_Pai_startNodes_32 (fun H locs hP hD hS => ?_)
  have hP := rows_setP rfl hP
  have hD := rows_setD rfl hD
  have hP : va_P (dC, dI) vwCl (wd_Pai_startNodes cI cJ cG cZ a0 a1 a0_paint a0_near a0_free a0_uses a1_near a1_tail a1_head r0_free v0_items_1 v0_evenly_2 v0_palette_3 v0_share_4 v0_bigger_5 v0_bigNow_6 (va_cpy w1_near w0_near (0 : Int32).toNatClampNeg (0 : Int32).toNatClampNeg v1_nodes.toNatClampNeg) w0_uses_7 v1_nodes v1_arcCount v1_version w1_near (gF w0_free ((0 : Int32).toNatClampNeg) (fillA 16 p2 (w0_free ((0 : Int32).toNatClampNeg))))) H := hP
  have hD : va_D A (wd_Pai_startNodes cI cJ cG cZ a0 a1 a0_paint a0_near a0_free a0_uses a1_near a1_tail a1_head r0_free v0_items_1 v0_evenly_2 v0_palette_3 v0_share_4 v0_bigger_5 v0_bigNow_6 (va_cpy w1_near w0_near (0 : Int32).toNatClampNeg (0 : Int32).toNatClampNeg v1_nodes.toNatClampNeg) w0_uses_7 v1_nodes v1_arcCount v1_version w1_near (gF w0_free ((0 : Int32).toNatClampNeg) (fillA 16 p2 (w0_free ((0 : Int32).toNatClampNeg))))) := hD
  cases hm
  exact W.vret hx hb hr (fun t ht hW => ⟨⟨(), rfl, trivial, by rw [ht]; exact hP, va_K.moved hW.alike hK, hD⟩, hS.F ht⟩) hS.2.2 d_Pai_startNodes_35
theorem d_Pai_startLists_0 : decode prog_5_method_3_code 0 = .ok (.aload_n 0, 1) := by decide +kernel
theorem d_Pai_startLists_1 : decode prog_5_method_3_code 1 = .ok (.aload_n 1, 1) := by decide +kernel
theorem d_Pai_startLists_2 : decode prog_5_method_3_code 2 = .ok (.getfield 26, 3) := by decide +kernel
theorem d_Pai_startLists_5 : decode prog_5_method_3_code 5 = .ok (.invokevirtual 32, 3) := by decide +kernel
theorem d_Pai_startLists_8 : decode prog_5_method_3_code 8 = .ok (.aload_n 1, 1) := by decide +kernel
theorem d_Pai_startLists_9 : decode prog_5_method_3_code 9 = .ok (.getfield 36, 3) := by decide +kernel
theorem d_Pai_startLists_12 : decode prog_5_method_3_code 12 = .ok (.iconst 0, 1) := by decide +kernel
theorem d_Pai_startLists_13 : decode prog_5_method_3_code 13 = .ok (.aload_n 0, 1) := by decide +kernel
theorem d_Pai_startLists_14 : decode prog_5_method_3_code 14 = .ok (.getfield 15, 3) := by decide +kernel
theorem d_Pai_startLists_17 : decode prog_5_method_3_code 17 = .ok (.iconst 0, 1) := by decide +kernel
theorem d_Pai_startLists_18 : decode prog_5_method_3_code 18 = .ok (.aload_n 1, 1) := by decide +kernel
theorem d_Pai_startLists_19 : decode prog_5_method_3_code 19 = .ok (.getfield 26, 3) := by decide +kernel
theorem d_Pai_startLists_22 : decode prog_5_method_3_code 22 = .ok (.invokestatic 37, 3) := by decide +kernel
theorem d_Pai_startLists_25 : decode prog_5_method_3_code 25 = .ok (.aload_n 2, 1) := by decide +kernel
theorem d_Pai_startLists_26 : decode prog_5_method_3_code 26 = .ok (.iconst 0, 1) := by decide +kernel
theorem d_Pai_startLists_27 : decode prog_5_method_3_code 27 = .ok (.aload_n 0, 1) := by decide +kernel
theorem d_Pai_startLists_28 : decode prog_5_method_3_code 28 = .ok (.getfield 20, 3) := by decide +kernel
theorem d_Pai_startLists_31 : decode prog_5_method_3_code 31 = .ok (.iconst 0, 1) := by decide +kernel
theorem d_Pai_startLists_32 : decode prog_5_method_3_code 32 = .ok (.aaload, 1) := by decide +kernel
theorem d_Pai_startLists_33 : decode prog_5_method_3_code 33 = .ok (.iconst 0, 1) := by decide +kernel
theorem d_Pai_startLists_34 : decode prog_5_method_3_code 34 = .ok (.aload_n 1, 1) := by decide +kernel
theorem d_Pai_startLists_35 : decode prog_5_method_3_code 35 = .ok (.getfield 26, 3) := by decide +kernel
theorem d_Pai_startLists_38 : decode prog_5_method_3_code 38 = .ok (.invokestatic 37, 3) := by decide +kernel
theorem d_Pai_startLists_41 : decode prog_5_method_3_code 41 = .ok (.return_, 1) := by decide +kernel
abbrev wd_Pai_startLists (cI cJ cG cZ : ClassId) (a0 a1 a2 a0_paint a0_near a0_free a0_uses a1_near a1_tail a1_head : Nat) (r0_free : Nat → Nat) (v0_items : Int32) (v0_evenly : Int32) (v0_palette : Int32) (v0_share : Int32) (v0_bigger : Int32) (v0_bigNow : Int32) (w0_near : Nat → Int32) (w0_uses : Nat → Int32) (v1_nodes : Int32) (v1_arcCount : Int32) (v1_version : Int32) (w1_near : Nat → Int32) (w2 : Nat → Int32) (w0_free : Nat → Nat → Int32) : va_W := [(a0, .inr (2, [.ref a0_paint, .ref a0_near, .ref a0_free, .ref a0_uses, .int v0_items, .int v0_evenly, .int v0_palette, .int v0_share, .int v0_bigger, .int v0_bigNow])), (a0_near, .inl (cI, 16, .inl w0_near)), (a0_free, .inl (cG, 18, .inr (.inr (.inr (.inr (gO r0_free 18)))))), (a0_uses, .inl (cI, 12, .inl w0_uses)), (a1, .inr (1, [.ref a1_near, .ref a1_tail, .ref a1_head, .int v1_nodes, .int v1_arcCount, .int v1_version])), (a1_near, .inl (cI, 12, .inl w1_near)), (a2, .inl (cI, 12, .inl w2))] ++ rowsW r0_free cI 16 18 w0_free
abbrev we_Pai_startLists (cI cJ cG cZ : ClassId) (a0 a1 a2 a0_paint a0_near a0_free a0_uses a1_near a1_tail a1_head : Nat) (r0_free : Nat → Nat) (v0_items : Int32) (v0_evenly : Int32) (v0_palette : Int32) (v0_share : Int32) (v0_bigger : Int32) (v0_bigNow : Int32) (w0_near : Nat → Int32) (w0_uses : Nat → Int32) (v1_nodes : Int32) (v1_arcCount : Int32) (v1_version : Int32) (w1_near : Nat → Int32) (w2 : Nat → Int32) (w0_free : Nat → Nat → Int32) : va_W := [(a0, .inr (2, [.ref a0_paint, .ref a0_near, .ref a0_free, .ref a0_uses, .int v0_items, .int v0_evenly, .int v0_palette, .int v0_share, .int v0_bigger, .int v0_bigNow])), (a0_near, .inl (cI, 16, .inl w0_near)), (a0_free, .inl (cG, 18, .inr (.inr (.inr (.inr (gO r0_free 18)))))), (a0_uses, .inl (cI, 12, .inl w0_uses)), (a1, .inr (1, [.ref a1_near, .ref a1_tail, .ref a1_head, .int v1_nodes, .int v1_arcCount, .int v1_version])), (a1_near, .inl (cI, 12, .inl w1_near)), (a2, .inl (cI, 12, .inl w2))]
abbrev us_Pai_startLists : List Cond := .code y_Pai_startLists prog_5_method_3_code 3 none :: gtbl
abbrev rm_Pai_startLists : Room := { frames := 2, cells := 0, slots := 0, locals := 45 }
def m_Pai_startLists (F : Nat) (v0_items : Int32) (v0_evenly : Int32) (v0_palette : Int32) (v0_share : Int32) (v0_bigger : Int32) (v0_bigNow : Int32) (w0_near : Nat → Int32) (w0_uses : Nat → Int32) (v1_nodes : Int32) (v1_arcCount : Int32) (v1_version : Int32) (w1_near : Nat → Int32) (w2 : Nat → Int32) (w0_free : Nat → Nat → Int32) : Option (Int32 × Int32 × Int32 × Int32 × Int32 × Int32 × (Nat → Int32) × (Nat → Int32) × (Nat → Nat → Int32)) :=
  gM (m_Pai_start F v0_items v0_evenly v0_palette v0_share v0_bigger v0_bigNow w0_uses v1_nodes) (fun (z_9 : Int32 × Int32 × Int32 × Int32 × Int32 × Int32 × (Nat → Int32)) => match z_9 with
  | (v0_items_1, v0_evenly_2, v0_palette_3, v0_share_4, v0_bigger_5, v0_bigNow_6, w0_uses_7) =>
  gC (cpyB (0 : Int32) (0 : Int32) v1_nodes 12 16) (
  gC (inb 0 18) (
  gC (cpyB (0 : Int32) (0 : Int32) v1_nodes 12 16) (
  some (v0_items_1, v0_evenly_2, v0_palette_3, v0_share_4, v0_bigger_5, v0_bigNow_6, va_cpy w1_near w0_near (0 : Int32).toNatClampNeg (0 : Int32).toNatClampNeg v1_nodes.toNatClampNeg, w0_uses_7, gF w0_free ((0 : Int32).toNatClampNeg) (va_cpy w2 (w0_free ((0 : Int32).toNatClampNeg)) (0 : Int32).toNatClampNeg (0 : Int32).toNatClampNeg v1_nodes.toNatClampNeg))))))
set_option maxHeartbeats 4000000 in
set_option maxRecDepth 100000 in
theorem c_Pai_startLists (l : Launch) (dC : Nat → ClassId) (dI : Nat → Nat → Nat) (cI cJ cG cZ : ClassId) (a0 a1 a2 a0_paint a0_near a0_free a0_uses a1_near a1_tail a1_head : Nat) (r0_free : Nat → Nat) (sz : Nat) (F : Nat) (v0_items : Int32) (v0_evenly : Int32) (v0_palette : Int32) (v0_share : Int32) (v0_bigger : Int32) (v0_bigNow : Int32) (w0_near : Nat → Int32) (w0_uses : Nat → Int32) (v1_nodes : Int32) (v1_arcCount : Int32) (v1_version : Int32) (w1_near : Nat → Int32) (w2 : Nat → Int32) (w0_free : Nat → Nat → Int32) (o_v0_items : Int32) (o_v0_evenly : Int32) (o_v0_palette : Int32) (o_v0_share : Int32) (o_v0_bigger : Int32) (o_v0_bigNow : Int32) (o_w0_near : Nat → Int32) (o_w0_uses : Nat → Int32) (o_w0_free : Nat → Nat → Int32) (hm : m_Pai_startLists F v0_items v0_evenly v0_palette v0_share v0_bigger v0_bigNow w0_near w0_uses v1_nodes v1_arcCount v1_version w1_near w2 w0_free = some (o_v0_items, o_v0_evenly, o_v0_palette, o_v0_share, o_v0_bigger, o_v0_bigNow, o_w0_near, o_w0_uses, o_w0_free)) : Met l y_Pai_startLists us_Pai_startLists rm_Pai_startLists (PcS (dC, dI) (tyL cI cJ cG cZ) [.ref a0, .ref a1, .ref a2] sz (wd_Pai_startLists cI cJ cG cZ a0 a1 a2 a0_paint a0_near a0_free a0_uses a1_near a1_tail a1_head r0_free v0_items v0_evenly v0_palette v0_share v0_bigger v0_bigNow w0_near w0_uses v1_nodes v1_arcCount v1_version w1_near w2 w0_free)) (va_Qv (fun (_ : Unit) => True) (fun _ t => PoS (dC, dI) (tyL cI cJ cG cZ) (wd_Pai_startLists cI cJ cG cZ a0 a1 a2 a0_paint a0_near a0_free a0_uses a1_near a1_tail a1_head r0_free o_v0_items o_v0_evenly o_v0_palette o_v0_share o_v0_bigger o_v0_bigNow o_w0_near o_w0_uses v1_nodes v1_arcCount v1_version w1_near w2 o_w0_free) (va_A (wd_Pai_startLists cI cJ cG cZ a0 a1 a2 a0_paint a0_near a0_free a0_uses a1_near a1_tail a1_head r0_free v0_items v0_evenly v0_palette v0_share v0_bigger v0_bigNow w0_near w0_uses v1_nodes v1_arcCount v1_version w1_near w2 w0_free) sz) t) (va_A (wd_Pai_startLists cI cJ cG cZ a0 a1 a2 a0_paint a0_near a0_free a0_uses a1_near a1_tail a1_head r0_free v0_items v0_evenly v0_palette v0_share v0_bigger v0_bigNow w0_near w0_uses v1_nodes v1_arcCount v1_version w1_near w2 w0_free) sz)) 0 0 (va_A (wd_Pai_startLists cI cJ cG cZ a0 a1 a2 a0_paint a0_near a0_free a0_uses a1_near a1_tail a1_head r0_free v0_items v0_evenly v0_palette v0_share v0_bigger v0_bigNow w0_near w0_uses v1_nodes v1_arcCount v1_version w1_near w2 w0_free) sz) := by
  refine Met.ofW (cc := prog_5_method_3_code) (maxL := 3) (ret := none) (by decide) rfl ?_
  intro p e s m args below meth c s₁ B hml hv
  obtain ⟨rfl, hsz, hP, hK, hD0, hNw⟩ := hv
  have hx := B.exec
  have hb := B.bytes
  have hr := B.returns
  have htt : ∀ w ∈ gtbl, w.before _ s = true := fun w h => atoms_spec (ws := us_Pai_startLists) B.pre w (List.mem_cons_of_mem _ h)
  have hown : s.vm.findClass R_Pai = some m.cls := findClass_of_methodNamed B.named
  have hlocks := B.notSynchronized
  subst hsz
  have hD := hD0.self (sz := s.heap.size)
  generalize hAe : va_A (wd_Pai_startLists cI cJ cG cZ a0 a1 a2 a0_paint a0_near a0_free a0_uses a1_near a1_tail a1_head r0_free v0_items v0_evenly v0_palette v0_share v0_bigger v0_bigNow w0_near w0_uses v1_nodes v1_arcCount v1_version w1_near w2 w0_free) s.heap.size = A at hD ⊢
  have hA : ∀ q : Nat, s.heap.size ≤ q → A q := fun q h => by rw [← hAe]; exact Or.inr h
  clear hAe hD0
  have hS : va_S A s.heap s.heap [] := va_S.rf
  have hl := lv_entry ([.ref a0, .ref a1, .ref a2]) (n := 3) (Nat.le_of_ble_eq_true rfl)
  rw [lg_entry_eq]
  generalize (lg_sl ([.ref a0, .ref a1, .ref a2]) ++ List.replicate (3 - (lg_sl ([.ref a0, .ref a1, .ref a2])).length) Slot.unset).toArray = ls at hl ⊢
  have hl : lv_has ls 3 [(0, .ref a0), (1, .ref a1), (2, .ref a2)] := hl
  generalize hH : s.heap = H at hP ⊢
  have hS : va_S A s.heap H [] := hH ▸ hS
  generalize hLo : ([] : List Loc) = locs at hS ⊢
  clear hH hLo
  unfold m_Pai_startLists at hm
  refine lv_aload_n hx hb d_Pai_startLists_0 rfl (lv_at hl 0 rfl) ?_
  refine lv_aload_n hx hb d_Pai_startLists_1 rfl (lv_at hl 1 rfl) ?_
  refine va_get (D := (dC, dI)) (ci := 1) (v := .int v1_nodes) (C := R_Net) (T := T_Net) (N := 6) hx hb htt hin_Net hown hK hP 4 rfl rfl 3 (by decide) (htt _ kt_45) (fun _ h9 => h9) rfl d_Pai_startLists_2 ?_
  obtain ⟨⟨v0_items_1, v0_evenly_2, v0_palette_3, v0_share_4, v0_bigger_5, v0_bigNow_6, w0_uses_7⟩, hc_8, hm⟩ := gM_e hm
  dsimp only at hm
  have hPc : va_P (dC, dI) vwCl (wd_Pai_start cI cJ cG cZ a0 a0_paint a0_near a0_free a0_uses v0_items v0_evenly v0_palette v0_share v0_bigger v0_bigNow w0_uses) H := hP.sub [0, 3] rfl
  have hDc : va_D A (wd_Pai_start cI cJ cG cZ a0 a0_paint a0_near a0_free a0_uses v0_items v0_evenly v0_palette v0_share v0_bigger v0_bigNow w0_uses) := hD.sub [0, 3] (by decide) rfl
  have hFc : ∀ q, va_A (wd_Pai_start cI cJ cG cZ a0 a0_paint a0_near a0_free a0_uses v0_items v0_evenly v0_palette v0_share v0_bigger v0_bigNow w0_uses) H.size q → A q := va_free hD hS hA [0, 3] rfl
  refine va_callv (va_runV (As := [.int v1_nodes]) (rest := []) ⟨hx, hb, hml, hown, htt⟩ (c_Pai_start l dC dI cI cJ cG cZ a0 a0_paint a0_near a0_free a0_uses H.size F v0_items v0_evenly v0_palette v0_share v0_bigger v0_bigNow w0_uses v1_nodes v0_items_1 v0_evenly_2 v0_palette_3 v0_share_4 v0_bigger_5 v0_bigNow_6 w0_uses_7 hc_8) (cwV 1 htt (gdV kt_298 kt_300 kp_0 kt_3 kt_301) rfl rfl rfl (by decide +kernel) ⟨(Nat.le_of_ble_eq_true rfl), (Nat.le_of_ble_eq_true rfl)⟩) ⟨PcS_blind, va_recv hK hPc (ci := 2) (q0 := 0) rfl rfl, PcS_in hPc hK hDc hNw⟩ rfl rfl hl.1 rfl (lv_room (Nat.le_of_ble_eq_true rfl)) d_Pai_startLists_5 ⟨Nat.zero_le _, Nat.zero_le _⟩) hS (fun q _ h => hFc q h) hFc (fun u t H1 locs ht hvm hw hB hz1 hk1 hS => ?_)
  obtain ⟨hP1, hK1, hD1⟩ := hB
  rw [ht] at hP1
  obtain ⟨hP, hD⟩ := va_joinQ (wr := [(a0_near, .inl (cI, 16, .inl w0_near)), (a0_free, .inl (cG, 18, .inr (.inr (.inr (.inr (gO r0_free 18)))))), (a1, .inr (1, [.ref a1_near, .ref a1_tail, .ref a1_head, .int v1_nodes, .int v1_arcCount, .int v1_version])), (a1_near, .inl (cI, 12, .inl w1_near)), (a2, .inl (cI, 12, .inl w2))]) (w1 := (wd_Pai_start cI cJ cG cZ a0 a0_paint a0_near a0_free a0_uses v0_items_1 v0_evenly_2 v0_palette_3 v0_share_4 v0_bigger_5 v0_bigNow_6 w0_uses_7)) hP hD [0, 3] [1, 2, 4, 5, 6] rfl rfl (by decide) (by decide) hk1 hFc hP1 hD1
  have hP : va_P (dC, dI) vwCl (wd_Pai_startLists cI cJ cG cZ a0 a1 a2 a0_paint a0_near a0_free a0_uses a1_near a1_tail a1_head r0_free v0_items_1 v0_evenly_2 v0_palette_3 v0_share_4 v0_bigger_5 v0_bigNow_6 w0_near w0_uses_7 v1_nodes v1_arcCount v1_version w1_near w2 w0_free) H1 := hP.part [5, 0, 1, 6, 2, 3, 4] rfl
  have hD : va_D A (wd_Pai_startLists cI cJ cG cZ a0 a1 a2 a0_paint a0_near a0_free a0_uses a1_near a1_tail a1_head r0_free v0_items_1 v0_evenly_2 v0_palette_3 v0_share_4 v0_bigger_5 v0_bigNow_6 w0_near w0_uses_7 v1_nodes v1_arcCount v1_version w1_near w2 w0_free) := hD.part [5, 0, 1, 6, 2, 3, 4] (by decide) rfl
  clear hP1 hK1 hD1 hk1 hPc hDc hFc ht hvm hz1
  generalize H1 = H at hP hS ⊢
  refine lv_aload_n hx hb d_Pai_startLists_8 rfl (lv_at hl 1 rfl) ?_
  refine va_get (D := (dC, dI)) (ci := 1) (v := .ref a1_near) (C := R_Net) (T := T_Net) (N := 6) hx hb htt hin_Net hown hK hP 4 rfl rfl 0 (by decide) (htt _ kt_34) (fun _ h9 => h9) rfl d_Pai_startLists_9 ?_
  refine lv_iconst (v := 0) hx hb d_Pai_startLists_12 (by decide) ?_
  refine lv_aload_n hx hb d_Pai_startLists_13 rfl (lv_at hl 0 rfl) ?_
  refine va_get (D := (dC, dI)) (ci := 2) (v := .ref a0_near) (C := R_Pai) (T := T_Pai) (N := 10) hx hb htt hin_Pai hown hK hP 0 rfl rfl 1 (by decide) (htt _ kt_83) (fun _ h9 => h9) rfl d_Pai_startLists_14 ?_
  refine lv_iconst (v := 0) hx hb d_Pai_startLists_17 (by decide) ?_
  refine lv_aload_n hx hb d_Pai_startLists_18 rfl (lv_at hl 1 rfl) ?_
  refine va_get (D := (dC, dI)) (ci := 1) (v := .int v1_nodes) (C := R_Net) (T := T_Net) (N := 6) hx hb htt hin_Net hown hK hP 4 rfl rfl 3 (by decide) (htt _ kt_45) (fun _ h9 => h9) rfl d_Pai_startLists_19 ?_
  obtain ⟨hy_10, hm⟩ := gC_e hm
  refine gx_copy hx hb hml hown htt kt_303 hK hP hD hS 5 1 rfl rfl hy_10 hl.1 (lv_room (Nat.le_of_ble_eq_true rfl)) (Nat.le_of_ble_eq_true rfl) (Nat.le_of_ble_eq_true rfl) d_Pai_startLists_22 (fun H locs hP hD hS => ?_)
  have hP : va_P (dC, dI) vwCl (wd_Pai_startLists cI cJ cG cZ a0 a1 a2 a0_paint a0_near a0_free a0_uses a1_near a1_tail a1_head r0_free v0_items_1 v0_evenly_2 v0_palette_3 v0_share_4 v0_bigger_5 v0_bigNow_6 (va_cpy w1_near w0_near (0 : Int32).toNatClampNeg (0 : Int32).toNatClampNeg v1_nodes.toNatClampNeg) w0_uses_7 v1_nodes v1_arcCount v1_version w1_near w2 w0_free) H := hP
  have hD : va_D A (wd_Pai_startLists cI cJ cG cZ a0 a1 a2 a0_paint a0_near a0_free a0_uses a1_near a1_tail a1_head r0_free v0_items_1 v0_evenly_2 v0_palette_3 v0_share_4 v0_bigger_5 v0_bigNow_6 (va_cpy w1_near w0_near (0 : Int32).toNatClampNeg (0 : Int32).toNatClampNeg v1_nodes.toNatClampNeg) w0_uses_7 v1_nodes v1_arcCount v1_version w1_near w2 w0_free) := hD
  refine lv_aload_n hx hb d_Pai_startLists_25 rfl (lv_at hl 2 rfl) ?_
  refine lv_iconst (v := 0) hx hb d_Pai_startLists_26 (by decide) ?_
  refine lv_aload_n hx hb d_Pai_startLists_27 rfl (lv_at hl 0 rfl) ?_
  refine va_get (D := (dC, dI)) (ci := 2) (v := .ref a0_free) (C := R_Pai) (T := T_Pai) (N := 10) hx hb htt hin_Pai hown hK hP 0 rfl rfl 2 (by decide) (htt _ kt_84) (fun _ h9 => h9) rfl d_Pai_startLists_28 ?_
  refine lv_iconst (v := 0) hx hb d_Pai_startLists_31 (by decide) ?_
  obtain ⟨hi_11, hm⟩ := gC_e hm
  have hj_12 := inb_lt hi_11
  refine gx_ald hx hb hK hP 2 2 rfl rfl (inb_vp hi_11) d_Pai_startLists_32 ?_
  refine lv_iconst (v := 0) hx hb d_Pai_startLists_33 (by decide) ?_
  refine lv_aload_n hx hb d_Pai_startLists_34 rfl (lv_at hl 1 rfl) ?_
  refine va_get (D := (dC, dI)) (ci := 1) (v := .int v1_nodes) (C := R_Net) (T := T_Net) (N := 6) hx hb htt hin_Net hown hK hP 4 rfl rfl 3 (by decide) (htt _ kt_45) (fun _ h9 => h9) rfl d_Pai_startLists_35 ?_
  obtain ⟨hy_13, hm⟩ := gC_e hm
  refine gx_copy hx hb hml hown htt kt_303 hK hP hD hS 6 (7 + (0 : Int32).toNatClampNeg) rfl (rows_get rfl hj_12) hy_13 hl.1 (lv_room (Nat.le_of_ble_eq_true rfl)) (Nat.le_of_ble_eq_true rfl) (Nat.le_of_ble_eq_true rfl) d_Pai_startLists_38 (fun H locs hP hD hS => ?_)
  have hP := rows_setP rfl hP
  have hD := rows_setD rfl hD
  have hP : va_P (dC, dI) vwCl (wd_Pai_startLists cI cJ cG cZ a0 a1 a2 a0_paint a0_near a0_free a0_uses a1_near a1_tail a1_head r0_free v0_items_1 v0_evenly_2 v0_palette_3 v0_share_4 v0_bigger_5 v0_bigNow_6 (va_cpy w1_near w0_near (0 : Int32).toNatClampNeg (0 : Int32).toNatClampNeg v1_nodes.toNatClampNeg) w0_uses_7 v1_nodes v1_arcCount v1_version w1_near w2 (gF w0_free ((0 : Int32).toNatClampNeg) (va_cpy w2 (w0_free ((0 : Int32).toNatClampNeg)) (0 : Int32).toNatClampNeg (0 : Int32).toNatClampNeg v1_nodes.toNatClampNeg))) H := hP
  have hD : va_D A (wd_Pai_startLists cI cJ cG cZ a0 a1 a2 a0_paint a0_near a0_free a0_uses a1_near a1_tail a1_head r0_free v0_items_1 v0_evenly_2 v0_palette_3 v0_share_4 v0_bigger_5 v0_bigNow_6 (va_cpy w1_near w0_near (0 : Int32).toNatClampNeg (0 : Int32).toNatClampNeg v1_nodes.toNatClampNeg) w0_uses_7 v1_nodes v1_arcCount v1_version w1_near w2 (gF w0_free ((0 : Int32).toNatClampNeg) (va_cpy w2 (w0_free ((0 : Int32).toNatClampNeg)) (0 : Int32).toNatClampNeg (0 : Int32).toNatClampNeg v1_nodes.toNatClampNeg))) := hD
  cases hm
  exact W.vret hx hb hr (fun t ht hW => ⟨⟨(), rfl, trivial, by rw [ht]; exact hP, va_K.moved hW.alike hK, hD⟩, hS.F ht⟩) hS.2.2 d_Pai_startLists_41
theorem d_Pai_startArcs_0 : decode prog_5_method_4_code 0 = .ok (.aload_n 0, 1) := by decide +kernel
theorem d_Pai_startArcs_1 : decode prog_5_method_4_code 1 = .ok (.aload_n 1, 1) := by decide +kernel
theorem d_Pai_startArcs_2 : decode prog_5_method_4_code 2 = .ok (.getfield 49, 3) := by decide +kernel
theorem d_Pai_startArcs_5 : decode prog_5_method_4_code 5 = .ok (.bipush 16, 2) := by decide +kernel
theorem d_Pai_startArcs_7 : decode prog_5_method_4_code 7 = .ok (.invokestatic 52, 3) := by decide +kernel
theorem d_Pai_startArcs_10 : decode prog_5_method_4_code 10 = .ok (.invokevirtual 32, 3) := by decide +kernel
theorem d_Pai_startArcs_13 : decode prog_5_method_4_code 13 = .ok (.aload_n 0, 1) := by decide +kernel
theorem d_Pai_startArcs_14 : decode prog_5_method_4_code 14 = .ok (.getfield 20, 3) := by decide +kernel
theorem d_Pai_startArcs_17 : decode prog_5_method_4_code 17 = .ok (.iconst 0, 1) := by decide +kernel
theorem d_Pai_startArcs_18 : decode prog_5_method_4_code 18 = .ok (.aaload, 1) := by decide +kernel
theorem d_Pai_startArcs_19 : decode prog_5_method_4_code 19 = .ok (.iload_n 2, 1) := by decide +kernel
theorem d_Pai_startArcs_20 : decode prog_5_method_4_code 20 = .ok (.invokestatic 43, 3) := by decide +kernel
theorem d_Pai_startArcs_23 : decode prog_5_method_4_code 23 = .ok (.iconst 0, 1) := by decide +kernel
theorem d_Pai_startArcs_24 : decode prog_5_method_4_code 24 = .ok (.istore_n 3, 1) := by decide +kernel
theorem d_Pai_startArcs_25 : decode prog_5_method_4_code 25 = .ok (.iload_n 3, 1) := by decide +kernel
theorem d_Pai_startArcs_26 : decode prog_5_method_4_code 26 = .ok (.aload_n 0, 1) := by decide +kernel
theorem d_Pai_startArcs_27 : decode prog_5_method_4_code 27 = .ok (.getfield 58, 3) := by decide +kernel
theorem d_Pai_startArcs_30 : decode prog_5_method_4_code 30 = .ok (.if_icmp .ge 97, 3) := by decide +kernel
theorem d_Pai_startArcs_33 : decode prog_5_method_4_code 33 = .ok (.iconst 1, 1) := by decide +kernel
theorem d_Pai_startArcs_34 : decode prog_5_method_4_code 34 = .ok (.aload_n 1, 1) := by decide +kernel
theorem d_Pai_startArcs_35 : decode prog_5_method_4_code 35 = .ok (.getfield 61, 3) := by decide +kernel
theorem d_Pai_startArcs_38 : decode prog_5_method_4_code 38 = .ok (.iload_n 3, 1) := by decide +kernel
theorem d_Pai_startArcs_39 : decode prog_5_method_4_code 39 = .ok (.iaload, 1) := by decide +kernel
theorem d_Pai_startArcs_40 : decode prog_5_method_4_code 40 = .ok (.ishl, 1) := by decide +kernel
theorem d_Pai_startArcs_41 : decode prog_5_method_4_code 41 = .ok (.iconst 1, 1) := by decide +kernel
theorem d_Pai_startArcs_42 : decode prog_5_method_4_code 42 = .ok (.aload_n 1, 1) := by decide +kernel
theorem d_Pai_startArcs_43 : decode prog_5_method_4_code 43 = .ok (.getfield 64, 3) := by decide +kernel
theorem d_Pai_startArcs_46 : decode prog_5_method_4_code 46 = .ok (.iload_n 3, 1) := by decide +kernel
theorem d_Pai_startArcs_47 : decode prog_5_method_4_code 47 = .ok (.iaload, 1) := by decide +kernel
theorem d_Pai_startArcs_48 : decode prog_5_method_4_code 48 = .ok (.ishl, 1) := by decide +kernel
theorem d_Pai_startArcs_49 : decode prog_5_method_4_code 49 = .ok (.ior, 1) := by decide +kernel
theorem d_Pai_startArcs_50 : decode prog_5_method_4_code 50 = .ok (.istore 4, 2) := by decide +kernel
theorem d_Pai_startArcs_52 : decode prog_5_method_4_code 52 = .ok (.aload_n 0, 1) := by decide +kernel
theorem d_Pai_startArcs_53 : decode prog_5_method_4_code 53 = .ok (.getfield 15, 3) := by decide +kernel
theorem d_Pai_startArcs_56 : decode prog_5_method_4_code 56 = .ok (.iload_n 3, 1) := by decide +kernel
theorem d_Pai_startArcs_57 : decode prog_5_method_4_code 57 = .ok (.iconst 0, 1) := by decide +kernel
theorem d_Pai_startArcs_58 : decode prog_5_method_4_code 58 = .ok (.iastore, 1) := by decide +kernel
theorem d_Pai_startArcs_59 : decode prog_5_method_4_code 59 = .ok (.iconst 0, 1) := by decide +kernel
theorem d_Pai_startArcs_60 : decode prog_5_method_4_code 60 = .ok (.istore 5, 2) := by decide +kernel
theorem d_Pai_startArcs_62 : decode prog_5_method_4_code 62 = .ok (.iload 5, 2) := by decide +kernel
theorem d_Pai_startArcs_64 : decode prog_5_method_4_code 64 = .ok (.aload_n 0, 1) := by decide +kernel
theorem d_Pai_startArcs_65 : decode prog_5_method_4_code 65 = .ok (.getfield 58, 3) := by decide +kernel
theorem d_Pai_startArcs_68 : decode prog_5_method_4_code 68 = .ok (.if_icmp .ge 53, 3) := by decide +kernel
theorem d_Pai_startArcs_71 : decode prog_5_method_4_code 71 = .ok (.iload 5, 2) := by decide +kernel
theorem d_Pai_startArcs_73 : decode prog_5_method_4_code 73 = .ok (.iload_n 3, 1) := by decide +kernel
theorem d_Pai_startArcs_74 : decode prog_5_method_4_code 74 = .ok (.if_icmp .eq 41, 3) := by decide +kernel
theorem d_Pai_startArcs_77 : decode prog_5_method_4_code 77 = .ok (.iload 4, 2) := by decide +kernel
theorem d_Pai_startArcs_79 : decode prog_5_method_4_code 79 = .ok (.iconst 1, 1) := by decide +kernel
theorem d_Pai_startArcs_80 : decode prog_5_method_4_code 80 = .ok (.aload_n 1, 1) := by decide +kernel
theorem d_Pai_startArcs_81 : decode prog_5_method_4_code 81 = .ok (.getfield 61, 3) := by decide +kernel
theorem d_Pai_startArcs_84 : decode prog_5_method_4_code 84 = .ok (.iload 5, 2) := by decide +kernel
theorem d_Pai_startArcs_86 : decode prog_5_method_4_code 86 = .ok (.iaload, 1) := by decide +kernel
theorem d_Pai_startArcs_87 : decode prog_5_method_4_code 87 = .ok (.ishl, 1) := by decide +kernel
theorem d_Pai_startArcs_88 : decode prog_5_method_4_code 88 = .ok (.iconst 1, 1) := by decide +kernel
theorem d_Pai_startArcs_89 : decode prog_5_method_4_code 89 = .ok (.aload_n 1, 1) := by decide +kernel
theorem d_Pai_startArcs_90 : decode prog_5_method_4_code 90 = .ok (.getfield 64, 3) := by decide +kernel
theorem d_Pai_startArcs_93 : decode prog_5_method_4_code 93 = .ok (.iload 5, 2) := by decide +kernel
theorem d_Pai_startArcs_95 : decode prog_5_method_4_code 95 = .ok (.iaload, 1) := by decide +kernel
theorem d_Pai_startArcs_96 : decode prog_5_method_4_code 96 = .ok (.ishl, 1) := by decide +kernel
theorem d_Pai_startArcs_97 : decode prog_5_method_4_code 97 = .ok (.ior, 1) := by decide +kernel
theorem d_Pai_startArcs_98 : decode prog_5_method_4_code 98 = .ok (.iand, 1) := by decide +kernel
theorem d_Pai_startArcs_99 : decode prog_5_method_4_code 99 = .ok (.ifCond .eq 16, 3) := by decide +kernel
theorem d_Pai_startArcs_102 : decode prog_5_method_4_code 102 = .ok (.aload_n 0, 1) := by decide +kernel
theorem d_Pai_startArcs_103 : decode prog_5_method_4_code 103 = .ok (.getfield 15, 3) := by decide +kernel
theorem d_Pai_startArcs_106 : decode prog_5_method_4_code 106 = .ok (.iload_n 3, 1) := by decide +kernel
theorem d_Pai_startArcs_107 : decode prog_5_method_4_code 107 = .ok (.dup2, 1) := by decide +kernel
theorem d_Pai_startArcs_108 : decode prog_5_method_4_code 108 = .ok (.iaload, 1) := by decide +kernel
theorem d_Pai_startArcs_109 : decode prog_5_method_4_code 109 = .ok (.iconst 1, 1) := by decide +kernel
theorem d_Pai_startArcs_110 : decode prog_5_method_4_code 110 = .ok (.iload 5, 2) := by decide +kernel
theorem d_Pai_startArcs_112 : decode prog_5_method_4_code 112 = .ok (.ishl, 1) := by decide +kernel
theorem d_Pai_startArcs_113 : decode prog_5_method_4_code 113 = .ok (.ior, 1) := by decide +kernel
theorem d_Pai_startArcs_114 : decode prog_5_method_4_code 114 = .ok (.iastore, 1) := by decide +kernel
theorem d_Pai_startArcs_115 : decode prog_5_method_4_code 115 = .ok (.iinc 5 1, 3) := by decide +kernel
theorem d_Pai_startArcs_118 : decode prog_5_method_4_code 118 = .ok (.goto (-56), 3) := by decide +kernel
theorem d_Pai_startArcs_121 : decode prog_5_method_4_code 121 = .ok (.iinc 3 1, 3) := by decide +kernel
theorem d_Pai_startArcs_124 : decode prog_5_method_4_code 124 = .ok (.goto (-99), 3) := by decide +kernel
theorem d_Pai_startArcs_127 : decode prog_5_method_4_code 127 = .ok (.return_, 1) := by decide +kernel
abbrev wd_Pai_startArcs (cI cJ cG cZ : ClassId) (a0 a1 a0_paint a0_near a0_free a0_uses a1_near a1_tail a1_head : Nat) (r0_free : Nat → Nat) (v0_items : Int32) (v0_evenly : Int32) (v0_palette : Int32) (v0_share : Int32) (v0_bigger : Int32) (v0_bigNow : Int32) (w0_near : Nat → Int32) (w0_uses : Nat → Int32) (v1_nodes : Int32) (v1_arcCount : Int32) (v1_version : Int32) (w1_tail : Nat → Int32) (w1_head : Nat → Int32) (w0_free : Nat → Nat → Int32) : va_W := [(a0, .inr (2, [.ref a0_paint, .ref a0_near, .ref a0_free, .ref a0_uses, .int v0_items, .int v0_evenly, .int v0_palette, .int v0_share, .int v0_bigger, .int v0_bigNow])), (a0_near, .inl (cI, 16, .inl w0_near)), (a0_free, .inl (cG, 18, .inr (.inr (.inr (.inr (gO r0_free 18)))))), (a0_uses, .inl (cI, 12, .inl w0_uses)), (a1, .inr (1, [.ref a1_near, .ref a1_tail, .ref a1_head, .int v1_nodes, .int v1_arcCount, .int v1_version])), (a1_tail, .inl (cI, 40, .inl w1_tail)), (a1_head, .inl (cI, 40, .inl w1_head))] ++ rowsW r0_free cI 16 18 w0_free
abbrev we_Pai_startArcs (cI cJ cG cZ : ClassId) (a0 a1 a0_paint a0_near a0_free a0_uses a1_near a1_tail a1_head : Nat) (r0_free : Nat → Nat) (v0_items : Int32) (v0_evenly : Int32) (v0_palette : Int32) (v0_share : Int32) (v0_bigger : Int32) (v0_bigNow : Int32) (w0_near : Nat → Int32) (w0_uses : Nat → Int32) (v1_nodes : Int32) (v1_arcCount : Int32) (v1_version : Int32) (w1_tail : Nat → Int32) (w1_head : Nat → Int32) (w0_free : Nat → Nat → Int32) : va_W := [(a0, .inr (2, [.ref a0_paint, .ref a0_near, .ref a0_free, .ref a0_uses, .int v0_items, .int v0_evenly, .int v0_palette, .int v0_share, .int v0_bigger, .int v0_bigNow])), (a0_near, .inl (cI, 16, .inl w0_near)), (a0_free, .inl (cG, 18, .inr (.inr (.inr (.inr (gO r0_free 18)))))), (a0_uses, .inl (cI, 12, .inl w0_uses)), (a1, .inr (1, [.ref a1_near, .ref a1_tail, .ref a1_head, .int v1_nodes, .int v1_arcCount, .int v1_version])), (a1_tail, .inl (cI, 40, .inl w1_tail)), (a1_head, .inl (cI, 40, .inl w1_head))]
abbrev us_Pai_startArcs : List Cond := .code y_Pai_startArcs prog_5_method_4_code 6 none :: gtbl
abbrev rm_Pai_startArcs : Room := { frames := 2, cells := 0, slots := 0, locals := 45 }
def m_Pai_startArcs (F : Nat) (v0_items : Int32) (v0_evenly : Int32) (v0_palette : Int32) (v0_share : Int32) (v0_bigger : Int32) (v0_bigNow : Int32) (w0_near : Nat → Int32) (w0_uses : Nat → Int32) (v1_nodes : Int32) (v1_arcCount : Int32) (v1_version : Int32) (w1_tail : Nat → Int32) (w1_head : Nat → Int32) (w0_free : Nat → Nat → Int32) (p2 : Int32) : Option (Int32 × Int32 × Int32 × Int32 × Int32 × Int32 × (Nat → Int32) × (Nat → Int32) × (Nat → Nat → Int32)) :=
  gM (m_Pai_start F v0_items v0_evenly v0_palette v0_share v0_bigger v0_bigNow w0_uses (minI v1_arcCount (16 : Int32))) (fun (z_9 : Int32 × Int32 × Int32 × Int32 × Int32 × Int32 × (Nat → Int32)) => match z_9 with
  | (v0_items_1, v0_evenly_2, v0_palette_3, v0_share_4, v0_bigger_5, v0_bigNow_6, w0_uses_7) =>
  gC (inb 0 18) (
  gL (fun (k_25 : (Int32 × (Nat → Int32)) → Option (Int32 × Int32 × Int32 × Int32 × Int32 × Int32 × (Nat → Int32) × (Nat → Int32) × (Nat → Nat → Int32))) (z_25 : Int32 × (Nat → Int32)) => match z_25 with
  | (x3_12, w0_near_13) =>
  if v0_items_1 ≤ x3_12 then (
    some (v0_items_1, v0_evenly_2, v0_palette_3, v0_share_4, v0_bigger_5, v0_bigNow_6, w0_near_13, w0_uses_7, gF w0_free ((0 : Int32).toNatClampNeg) (fillA 16 p2 (w0_free ((0 : Int32).toNatClampNeg))))
  ) else (
    gC (inb x3_12 40) (
    gC (inb x3_12 40) (
    gB (((1 : Int32) <<< ((w1_tail x3_12.toNatClampNeg) &&& 31)) ||| ((1 : Int32) <<< ((w1_head x3_12.toNatClampNeg) &&& 31))) (fun x4_17 =>
    gC (inb x3_12 16) (
    gL (fun (k_62 : (Int32 × (Nat → Int32)) → Option (Int32 × Int32 × Int32 × Int32 × Int32 × Int32 × (Nat → Int32) × (Nat → Int32) × (Nat → Nat → Int32))) (z_62 : Int32 × (Nat → Int32)) => match z_62 with
    | (x5_19, w0_near_20) =>
    if v0_items_1 ≤ x5_19 then (
      gB (x3_12 + 1) (fun x3_22 =>
      k_25 (x3_22, w0_near_20))
    ) else (
      if x5_19 = x3_12 then (
        gB (x5_19 + 1) (fun x5_24 =>
        k_62 (x5_24, w0_near_20))
      ) else (
        gC (inb x5_19 40) (
        gC (inb x5_19 40) (
        if (x4_17 &&& (((1 : Int32) <<< ((w1_tail x5_19.toNatClampNeg) &&& 31)) ||| ((1 : Int32) <<< ((w1_head x5_19.toNatClampNeg) &&& 31)))) = 0 then (
          gB (x5_19 + 1) (fun x5_28 =>
          k_62 (x5_28, w0_near_20))
        ) else (
          gC (inb x3_12 16) (
          gC (inb x3_12 16) (
          gB (x5_19 + 1) (fun x5_31 =>
          k_62 (x5_31, upd w0_near_20 x3_12.toNatClampNeg ((w0_near_20 x3_12.toNatClampNeg) ||| ((1 : Int32) <<< (x5_19 &&& 31)))))))
        )))
      )
    )
    ) F (0, upd w0_near_13 x3_12.toNatClampNeg 0)))))
  )
  ) F (0, w0_near)))
set_option maxHeartbeats 4000000 in
set_option maxRecDepth 100000 in
theorem c_Pai_startArcs (l : Launch) (dC : Nat → ClassId) (dI : Nat → Nat → Nat) (cI cJ cG cZ : ClassId) (a0 a1 a0_paint a0_near a0_free a0_uses a1_near a1_tail a1_head : Nat) (r0_free : Nat → Nat) (sz : Nat) (F : Nat) (v0_items : Int32) (v0_evenly : Int32) (v0_palette : Int32) (v0_share : Int32) (v0_bigger : Int32) (v0_bigNow : Int32) (w0_near : Nat → Int32) (w0_uses : Nat → Int32) (v1_nodes : Int32) (v1_arcCount : Int32) (v1_version : Int32) (w1_tail : Nat → Int32) (w1_head : Nat → Int32) (w0_free : Nat → Nat → Int32) (p2 : Int32) (o_v0_items : Int32) (o_v0_evenly : Int32) (o_v0_palette : Int32) (o_v0_share : Int32) (o_v0_bigger : Int32) (o_v0_bigNow : Int32) (o_w0_near : Nat → Int32) (o_w0_uses : Nat → Int32) (o_w0_free : Nat → Nat → Int32) (hm : m_Pai_startArcs F v0_items v0_evenly v0_palette v0_share v0_bigger v0_bigNow w0_near w0_uses v1_nodes v1_arcCount v1_version w1_tail w1_head w0_free p2 = some (o_v0_items, o_v0_evenly, o_v0_palette, o_v0_share, o_v0_bigger, o_v0_bigNow, o_w0_near, o_w0_uses, o_w0_free)) : Met l y_Pai_startArcs us_Pai_startArcs rm_Pai_startArcs (PcS (dC, dI) (tyL cI cJ cG cZ) [.ref a0, .ref a1, .int p2] sz (wd_Pai_startArcs cI cJ cG cZ a0 a1 a0_paint a0_near a0_free a0_uses a1_near a1_tail a1_head r0_free v0_items v0_evenly v0_palette v0_share v0_bigger v0_bigNow w0_near w0_uses v1_nodes v1_arcCount v1_version w1_tail w1_head w0_free)) (va_Qv (fun (_ : Unit) => True) (fun _ t => PoS (dC, dI) (tyL cI cJ cG cZ) (wd_Pai_startArcs cI cJ cG cZ a0 a1 a0_paint a0_near a0_free a0_uses a1_near a1_tail a1_head r0_free o_v0_items o_v0_evenly o_v0_palette o_v0_share o_v0_bigger o_v0_bigNow o_w0_near o_w0_uses v1_nodes v1_arcCount v1_version w1_tail w1_head o_w0_free) (va_A (wd_Pai_startArcs cI cJ cG cZ a0 a1 a0_paint a0_near a0_free a0_uses a1_near a1_tail a1_head r0_free v0_items v0_evenly v0_palette v0_share v0_bigger v0_bigNow w0_near w0_uses v1_nodes v1_arcCount v1_version w1_tail w1_head w0_free) sz) t) (va_A (wd_Pai_startArcs cI cJ cG cZ a0 a1 a0_paint a0_near a0_free a0_uses a1_near a1_tail a1_head r0_free v0_items v0_evenly v0_palette v0_share v0_bigger v0_bigNow w0_near w0_uses v1_nodes v1_arcCount v1_version w1_tail w1_head w0_free) sz)) 0 0 (va_A (wd_Pai_startArcs cI cJ cG cZ a0 a1 a0_paint a0_near a0_free a0_uses a1_near a1_tail a1_head r0_free v0_items v0_evenly v0_palette v0_share v0_bigger v0_bigNow w0_near w0_uses v1_nodes v1_arcCount v1_version w1_tail w1_head w0_free) sz) := by
  refine Met.ofW (cc := prog_5_method_4_code) (maxL := 6) (ret := none) (by decide) rfl ?_
  intro p e s m args below meth c s₁ B hml hv
  obtain ⟨rfl, hsz, hP, hK, hD0, hNw⟩ := hv
  have hx := B.exec
  have hb := B.bytes
  have hr := B.returns
  have htt : ∀ w ∈ gtbl, w.before _ s = true := fun w h => atoms_spec (ws := us_Pai_startArcs) B.pre w (List.mem_cons_of_mem _ h)
  have hown : s.vm.findClass R_Pai = some m.cls := findClass_of_methodNamed B.named
  have hlocks := B.notSynchronized
  subst hsz
  have hD := hD0.self (sz := s.heap.size)
  generalize hAe : va_A (wd_Pai_startArcs cI cJ cG cZ a0 a1 a0_paint a0_near a0_free a0_uses a1_near a1_tail a1_head r0_free v0_items v0_evenly v0_palette v0_share v0_bigger v0_bigNow w0_near w0_uses v1_nodes v1_arcCount v1_version w1_tail w1_head w0_free) s.heap.size = A at hD ⊢
  have hA : ∀ q : Nat, s.heap.size ≤ q → A q := fun q h => by rw [← hAe]; exact Or.inr h
  clear hAe hD0
  have hS : va_S A s.heap s.heap [] := va_S.rf
  have hl := lv_entry ([.ref a0, .ref a1, .int p2]) (n := 6) (Nat.le_of_ble_eq_true rfl)
  rw [lg_entry_eq]
  generalize (lg_sl ([.ref a0, .ref a1, .int p2]) ++ List.replicate (6 - (lg_sl ([.ref a0, .ref a1, .int p2])).length) Slot.unset).toArray = ls at hl ⊢
  have hl : lv_has ls 6 [(0, .ref a0), (1, .ref a1), (2, .int p2)] := hl
  generalize hH : s.heap = H at hP ⊢
  have hS : va_S A s.heap H [] := hH ▸ hS
  generalize hLo : ([] : List Loc) = locs at hS ⊢
  clear hH hLo
  unfold m_Pai_startArcs at hm
  refine lv_aload_n hx hb d_Pai_startArcs_0 rfl (lv_at hl 0 rfl) ?_
  refine lv_aload_n hx hb d_Pai_startArcs_1 rfl (lv_at hl 1 rfl) ?_
  refine va_get (D := (dC, dI)) (ci := 1) (v := .int v1_arcCount) (C := R_Net) (T := T_Net) (N := 6) hx hb htt hin_Net hown hK hP 4 rfl rfl 4 (by decide) (htt _ kt_54) (fun _ h9 => h9) rfl d_Pai_startArcs_2 ?_
  refine lv_bipush (v := 16) hx hb d_Pai_startArcs_5 (by decide) ?_
  refine gx_mmin hx hb hml hown htt kt_751 hl.1 (lv_room (Nat.le_of_ble_eq_true rfl)) (Nat.le_of_ble_eq_true rfl) (Nat.le_of_ble_eq_true rfl) (Nat.zero_le _) (Nat.zero_le _) d_Pai_startArcs_7 ?_
  obtain ⟨⟨v0_items_1, v0_evenly_2, v0_palette_3, v0_share_4, v0_bigger_5, v0_bigNow_6, w0_uses_7⟩, hc_8, hm⟩ := gM_e hm
  dsimp only at hm
  have hPc : va_P (dC, dI) vwCl (wd_Pai_start cI cJ cG cZ a0 a0_paint a0_near a0_free a0_uses v0_items v0_evenly v0_palette v0_share v0_bigger v0_bigNow w0_uses) H := hP.sub [0, 3] rfl
  have hDc : va_D A (wd_Pai_start cI cJ cG cZ a0 a0_paint a0_near a0_free a0_uses v0_items v0_evenly v0_palette v0_share v0_bigger v0_bigNow w0_uses) := hD.sub [0, 3] (by decide) rfl
  have hFc : ∀ q, va_A (wd_Pai_start cI cJ cG cZ a0 a0_paint a0_near a0_free a0_uses v0_items v0_evenly v0_palette v0_share v0_bigger v0_bigNow w0_uses) H.size q → A q := va_free hD hS hA [0, 3] rfl
  refine va_callv (va_runV (As := [.int (minI v1_arcCount (16 : Int32))]) (rest := []) ⟨hx, hb, hml, hown, htt⟩ (c_Pai_start l dC dI cI cJ cG cZ a0 a0_paint a0_near a0_free a0_uses H.size F v0_items v0_evenly v0_palette v0_share v0_bigger v0_bigNow w0_uses (minI v1_arcCount (16 : Int32)) v0_items_1 v0_evenly_2 v0_palette_3 v0_share_4 v0_bigger_5 v0_bigNow_6 w0_uses_7 hc_8) (cwV 1 htt (gdV kt_298 kt_300 kp_0 kt_3 kt_301) rfl rfl rfl (by decide +kernel) ⟨(Nat.le_of_ble_eq_true rfl), (Nat.le_of_ble_eq_true rfl)⟩) ⟨PcS_blind, va_recv hK hPc (ci := 2) (q0 := 0) rfl rfl, PcS_in hPc hK hDc hNw⟩ rfl rfl hl.1 rfl (lv_room (Nat.le_of_ble_eq_true rfl)) d_Pai_startArcs_10 ⟨Nat.zero_le _, Nat.zero_le _⟩) hS (fun q _ h => hFc q h) hFc (fun u t H1 locs ht hvm hw hB hz1 hk1 hS => ?_)
  obtain ⟨hP1, hK1, hD1⟩ := hB
  rw [ht] at hP1
  obtain ⟨hP, hD⟩ := va_joinQ (wr := [(a0_near, .inl (cI, 16, .inl w0_near)), (a0_free, .inl (cG, 18, .inr (.inr (.inr (.inr (gO r0_free 18)))))), (a1, .inr (1, [.ref a1_near, .ref a1_tail, .ref a1_head, .int v1_nodes, .int v1_arcCount, .int v1_version])), (a1_tail, .inl (cI, 40, .inl w1_tail)), (a1_head, .inl (cI, 40, .inl w1_head))]) (w1 := (wd_Pai_start cI cJ cG cZ a0 a0_paint a0_near a0_free a0_uses v0_items_1 v0_evenly_2 v0_palette_3 v0_share_4 v0_bigger_5 v0_bigNow_6 w0_uses_7)) hP hD [0, 3] [1, 2, 4, 5, 6] rfl rfl (by decide) (by decide) hk1 hFc hP1 hD1
  have hP : va_P (dC, dI) vwCl (wd_Pai_startArcs cI cJ cG cZ a0 a1 a0_paint a0_near a0_free a0_uses a1_near a1_tail a1_head r0_free v0_items_1 v0_evenly_2 v0_palette_3 v0_share_4 v0_bigger_5 v0_bigNow_6 w0_near w0_uses_7 v1_nodes v1_arcCount v1_version w1_tail w1_head w0_free) H1 := hP.part [5, 0, 1, 6, 2, 3, 4] rfl
  have hD : va_D A (wd_Pai_startArcs cI cJ cG cZ a0 a1 a0_paint a0_near a0_free a0_uses a1_near a1_tail a1_head r0_free v0_items_1 v0_evenly_2 v0_palette_3 v0_share_4 v0_bigger_5 v0_bigNow_6 w0_near w0_uses_7 v1_nodes v1_arcCount v1_version w1_tail w1_head w0_free) := hD.part [5, 0, 1, 6, 2, 3, 4] (by decide) rfl
  clear hP1 hK1 hD1 hk1 hPc hDc hFc ht hvm hz1
  generalize H1 = H at hP hS ⊢
  refine lv_aload_n hx hb d_Pai_startArcs_13 rfl (lv_at hl 0 rfl) ?_
  refine va_get (D := (dC, dI)) (ci := 2) (v := .ref a0_free) (C := R_Pai) (T := T_Pai) (N := 10) hx hb htt hin_Pai hown hK hP 0 rfl rfl 2 (by decide) (htt _ kt_84) (fun _ h9 => h9) rfl d_Pai_startArcs_14 ?_
  refine lv_iconst (v := 0) hx hb d_Pai_startArcs_17 (by decide) ?_
  obtain ⟨hi_10, hm⟩ := gC_e hm
  have hj_11 := inb_lt hi_10
  refine gx_ald hx hb hK hP 2 2 rfl rfl (inb_vp hi_10) d_Pai_startArcs_18 ?_
  refine lv_iload_n hx hb d_Pai_startArcs_19 rfl (lv_at hl 2 rfl) ?_
  refine gx_filli hx hb hml hown htt kt_302 hK hNw hP hD hS hA (7 + (0 : Int32).toNatClampNeg) (rows_get rfl hj_11) (by decide) hl.1 (lv_room (Nat.le_of_ble_eq_true rfl)) (Nat.le_of_ble_eq_true rfl) (Nat.le_of_ble_eq_true rfl) (Nat.zero_le _) (Nat.zero_le _) d_Pai_startArcs_20 (fun H locs hP hD hS => ?_)
  have hP := rows_setP rfl hP
  have hD := rows_setD rfl hD
  have hP : va_P (dC, dI) vwCl (wd_Pai_startArcs cI cJ cG cZ a0 a1 a0_paint a0_near a0_free a0_uses a1_near a1_tail a1_head r0_free v0_items_1 v0_evenly_2 v0_palette_3 v0_share_4 v0_bigger_5 v0_bigNow_6 w0_near w0_uses_7 v1_nodes v1_arcCount v1_version w1_tail w1_head (gF w0_free ((0 : Int32).toNatClampNeg) (fillA 16 p2 (w0_free ((0 : Int32).toNatClampNeg))))) H := hP
  have hD : va_D A (wd_Pai_startArcs cI cJ cG cZ a0 a1 a0_paint a0_near a0_free a0_uses a1_near a1_tail a1_head r0_free v0_items_1 v0_evenly_2 v0_palette_3 v0_share_4 v0_bigger_5 v0_bigNow_6 w0_near w0_uses_7 v1_nodes v1_arcCount v1_version w1_tail w1_head (gF w0_free ((0 : Int32).toNatClampNeg) (fillA 16 p2 (w0_free ((0 : Int32).toNatClampNeg))))) := hD
  refine lv_iconst (v := 0) hx hb d_Pai_startArcs_23 (by decide) ?_
  refine lv_istore_n (lv' := [(3, .int 0), (0, .ref a0), (1, .ref a1), (2, .int p2)]) hx hb d_Pai_startArcs_24 rfl hl (by decide) rfl (fun ls hl => ?_)
  refine gL_e (P := (fun (z_25 : Int32 × (Nat → Int32)) => ∀ (x3_12 : Int32), ∀ (w0_near_13 : Nat → Int32), z_25 = (x3_12, w0_near_13) → ∀ (ls : Array Slot) (H : Heap) (locs : List Loc), lv_has ls 6 [(0, .ref a0), (1, .ref a1), (3, .int x3_12)] → va_P (dC, dI) vwCl (wd_Pai_startArcs cI cJ cG cZ a0 a1 a0_paint a0_near a0_free a0_uses a1_near a1_tail a1_head r0_free v0_items_1 v0_evenly_2 v0_palette_3 v0_share_4 v0_bigger_5 v0_bigNow_6 w0_near_13 w0_uses_7 v1_nodes v1_arcCount v1_version w1_tail w1_head (gF w0_free ((0 : Int32).toNatClampNeg) (fillA 16 p2 (w0_free ((0 : Int32).toNatClampNeg))))) H → va_D A (wd_Pai_startArcs cI cJ cG cZ a0 a1 a0_paint a0_near a0_free a0_uses a1_near a1_tail a1_head r0_free v0_items_1 v0_evenly_2 v0_palette_3 v0_share_4 v0_bigger_5 v0_bigNow_6 w0_near_13 w0_uses_7 v1_nodes v1_arcCount v1_version w1_tail w1_head (gF w0_free ((0 : Int32).toNatClampNeg) (fillA 16 p2 (w0_free ((0 : Int32).toNatClampNeg))))) → va_S A s.heap H locs → W p l e (headSpec us_Pai_startArcs rm_Pai_startArcs).room s m ([.ref a0, .ref a1, .int p2] : List Value).toArray below meth c H locs 0 0 (MQ below (va_Qv (fun (_ : Unit) => True) (fun _ t => PoS (dC, dI) (tyL cI cJ cG cZ) (wd_Pai_startArcs cI cJ cG cZ a0 a1 a0_paint a0_near a0_free a0_uses a1_near a1_tail a1_head r0_free o_v0_items o_v0_evenly o_v0_palette o_v0_share o_v0_bigger o_v0_bigNow o_w0_near o_w0_uses v1_nodes v1_arcCount v1_version w1_tail w1_head o_w0_free) A t) A) ([.ref a0, .ref a1, .int p2] : List Value).toArray s 0 0 A) (F0 m 25 ls []))) hm (fun k_25 z_25 ih_25 hm => ?_) _ _ rfl ls H locs (lv_sub hl [1, 2, 0] rfl) hP hD hS
  intro x3_12 w0_near_13 hz ls H locs hl hP hD hS
  subst hz
  dsimp only at hm
  refine lv_iload_n hx hb d_Pai_startArcs_25 rfl (lv_at hl 2 rfl) ?_
  refine lv_aload_n hx hb d_Pai_startArcs_26 rfl (lv_at hl 0 rfl) ?_
  refine va_get (D := (dC, dI)) (ci := 2) (v := .int v0_items_1) (C := R_Pai) (T := T_Pai) (N := 10) hx hb htt hin_Pai hown hK hP 0 rfl rfl 4 (by decide) (htt _ kt_86) (fun _ h9 => h9) rfl d_Pai_startArcs_27 ?_
  refine lv_icmp_ge (tgt := 127) hx hb d_Pai_startArcs_30 (by decide) (fun c_14 => ?_) (fun c_14 => ?_)
  · have hm := ite_t c_14 hm
    cases hm
    exact W.vret hx hb hr (fun t ht hW => ⟨⟨(), rfl, trivial, by rw [ht]; exact hP, va_K.moved hW.alike hK, hD⟩, hS.F ht⟩) hS.2.2 d_Pai_startArcs_127
  · have hm := ite_f c_14 hm
    refine lv_iconst (v := 1) hx hb d_Pai_startArcs_33 (by decide) ?_
    refine lv_aload_n hx hb d_Pai_startArcs_34 rfl (lv_at hl 1 rfl) ?_
    refine va_get (D := (dC, dI)) (ci := 1) (v := .ref a1_tail) (C := R_Net) (T := T_Net) (N := 6) hx hb htt hin_Net hown hK hP 4 rfl rfl 1 (by decide) (htt _ kt_40) (fun _ h9 => h9) rfl d_Pai_startArcs_35 ?_
    refine lv_iload_n hx hb d_Pai_startArcs_38 rfl (lv_at hl 2 rfl) ?_
    obtain ⟨hi_15, hm⟩ := gC_e hm
    refine va_iald hx hb hK hP 5 0 rfl rfl (inb_vp hi_15) d_Pai_startArcs_39 ?_
    refine lv_ishl hx hb d_Pai_startArcs_40 ?_
    refine lv_iconst (v := 1) hx hb d_Pai_startArcs_41 (by decide) ?_
    refine lv_aload_n hx hb d_Pai_startArcs_42 rfl (lv_at hl 1 rfl) ?_
    refine va_get (D := (dC, dI)) (ci := 1) (v := .ref a1_head) (C := R_Net) (T := T_Net) (N := 6) hx hb htt hin_Net hown hK hP 4 rfl rfl 2 (by decide) (htt _ kt_43) (fun _ h9 => h9) rfl d_Pai_startArcs_43 ?_
    refine lv_iload_n hx hb d_Pai_startArcs_46 rfl (lv_at hl 2 rfl) ?_
    obtain ⟨hi_16, hm⟩ := gC_e hm
    refine va_iald hx hb hK hP 6 0 rfl rfl (inb_vp hi_16) d_Pai_startArcs_47 ?_
    refine lv_ishl hx hb d_Pai_startArcs_48 ?_
    refine lv_ior hx hb d_Pai_startArcs_49 ?_
    refine lv_topi (fun x4_17 ex4_17 => ?_)
    have hm := gB_at ex4_17 hm
    refine lv_istore (lv' := [(4, .int x4_17), (0, .ref a0), (1, .ref a1), (3, .int x3_12)]) hx hb d_Pai_startArcs_50 hl (by decide) rfl (fun ls hl => ?_)
    refine lv_aload_n hx hb d_Pai_startArcs_52 rfl (lv_at hl 1 rfl) ?_
    refine va_get (D := (dC, dI)) (ci := 2) (v := .ref a0_near) (C := R_Pai) (T := T_Pai) (N := 10) hx hb htt hin_Pai hown hK hP 0 rfl rfl 1 (by decide) (htt _ kt_83) (fun _ h9 => h9) rfl d_Pai_startArcs_53 ?_
    refine lv_iload_n hx hb d_Pai_startArcs_56 rfl (lv_at hl 3 rfl) ?_
    refine lv_iconst (v := 0) hx hb d_Pai_startArcs_57 (by decide) ?_
    obtain ⟨hi_18, hm⟩ := gC_e hm
    refine va_iast hx hb hK hP hD hS 1 0 rfl rfl (inb_vp hi_18) d_Pai_startArcs_58 (fun H locs hP hD hS => ?_)
    have hP : va_P (dC, dI) vwCl (wd_Pai_startArcs cI cJ cG cZ a0 a1 a0_paint a0_near a0_free a0_uses a1_near a1_tail a1_head r0_free v0_items_1 v0_evenly_2 v0_palette_3 v0_share_4 v0_bigger_5 v0_bigNow_6 (upd w0_near_13 x3_12.toNatClampNeg 0) w0_uses_7 v1_nodes v1_arcCount v1_version w1_tail w1_head (gF w0_free ((0 : Int32).toNatClampNeg) (fillA 16 p2 (w0_free ((0 : Int32).toNatClampNeg))))) H := hP
    have hD : va_D A (wd_Pai_startArcs cI cJ cG cZ a0 a1 a0_paint a0_near a0_free a0_uses a1_near a1_tail a1_head r0_free v0_items_1 v0_evenly_2 v0_palette_3 v0_share_4 v0_bigger_5 v0_bigNow_6 (upd w0_near_13 x3_12.toNatClampNeg 0) w0_uses_7 v1_nodes v1_arcCount v1_version w1_tail w1_head (gF w0_free ((0 : Int32).toNatClampNeg) (fillA 16 p2 (w0_free ((0 : Int32).toNatClampNeg))))) := hD
    refine lv_iconst (v := 0) hx hb d_Pai_startArcs_59 (by decide) ?_
    refine lv_istore (lv' := [(5, .int 0), (4, .int x4_17), (0, .ref a0), (1, .ref a1), (3, .int x3_12)]) hx hb d_Pai_startArcs_60 hl (by decide) rfl (fun ls hl => ?_)
    refine gL_e (P := (fun (z_62 : Int32 × (Nat → Int32)) => ∀ (x5_19 : Int32), ∀ (w0_near_20 : Nat → Int32), z_62 = (x5_19, w0_near_20) → ∀ (ls : Array Slot) (H : Heap) (locs : List Loc), lv_has ls 6 [(0, .ref a0), (1, .ref a1), (3, .int x3_12), (4, .int x4_17), (5, .int x5_19)] → va_P (dC, dI) vwCl (wd_Pai_startArcs cI cJ cG cZ a0 a1 a0_paint a0_near a0_free a0_uses a1_near a1_tail a1_head r0_free v0_items_1 v0_evenly_2 v0_palette_3 v0_share_4 v0_bigger_5 v0_bigNow_6 w0_near_20 w0_uses_7 v1_nodes v1_arcCount v1_version w1_tail w1_head (gF w0_free ((0 : Int32).toNatClampNeg) (fillA 16 p2 (w0_free ((0 : Int32).toNatClampNeg))))) H → va_D A (wd_Pai_startArcs cI cJ cG cZ a0 a1 a0_paint a0_near a0_free a0_uses a1_near a1_tail a1_head r0_free v0_items_1 v0_evenly_2 v0_palette_3 v0_share_4 v0_bigger_5 v0_bigNow_6 w0_near_20 w0_uses_7 v1_nodes v1_arcCount v1_version w1_tail w1_head (gF w0_free ((0 : Int32).toNatClampNeg) (fillA 16 p2 (w0_free ((0 : Int32).toNatClampNeg))))) → va_S A s.heap H locs → W p l e (headSpec us_Pai_startArcs rm_Pai_startArcs).room s m ([.ref a0, .ref a1, .int p2] : List Value).toArray below meth c H locs 0 0 (MQ below (va_Qv (fun (_ : Unit) => True) (fun _ t => PoS (dC, dI) (tyL cI cJ cG cZ) (wd_Pai_startArcs cI cJ cG cZ a0 a1 a0_paint a0_near a0_free a0_uses a1_near a1_tail a1_head r0_free o_v0_items o_v0_evenly o_v0_palette o_v0_share o_v0_bigger o_v0_bigNow o_w0_near o_w0_uses v1_nodes v1_arcCount v1_version w1_tail w1_head o_w0_free) A t) A) ([.ref a0, .ref a1, .int p2] : List Value).toArray s 0 0 A) (F0 m 62 ls []))) hm (fun k_62 z_62 ih_62 hm => ?_) _ _ rfl ls H locs (lv_sub hl [2, 3, 4, 1, 0] rfl) hP hD hS
    intro x5_19 w0_near_20 hz ls H locs hl hP hD hS
    subst hz
    dsimp only at hm
    refine lv_iload hx hb d_Pai_startArcs_62 (lv_at hl 4 rfl) ?_
    refine lv_aload_n hx hb d_Pai_startArcs_64 rfl (lv_at hl 0 rfl) ?_
    refine va_get (D := (dC, dI)) (ci := 2) (v := .int v0_items_1) (C := R_Pai) (T := T_Pai) (N := 10) hx hb htt hin_Pai hown hK hP 0 rfl rfl 4 (by decide) (htt _ kt_86) (fun _ h9 => h9) rfl d_Pai_startArcs_65 ?_
    refine lv_icmp_ge (tgt := 121) hx hb d_Pai_startArcs_68 (by decide) (fun c_21 => ?_) (fun c_21 => ?_)
    · have hm := ite_t c_21 hm
      obtain ⟨x3_22, ex3_22⟩ : ∃ y : Int32, y = x3_12 + 1 := ⟨_, rfl⟩
      have hm := gB_at ex3_22 hm
      refine lv_iinc (v := x3_22) (lv' := [(3, .int x3_22), (0, .ref a0), (1, .ref a1), (4, .int x4_17), (5, .int x5_19)]) hx hb d_Pai_startArcs_121 hl (k := 2) rfl (by rw [ex3_22]; rfl) (by decide) rfl (fun ls hl => ?_)
      refine lv_goto (tgt := 25) hx hb d_Pai_startArcs_124 (by decide) ?_
      exact ih_25 _ hm _ _ rfl ls H locs (lv_sub hl [1, 2, 0] rfl) hP hD hS
    · have hm := ite_f c_21 hm
      refine lv_iload hx hb d_Pai_startArcs_71 (lv_at hl 4 rfl) ?_
      refine lv_iload_n hx hb d_Pai_startArcs_73 rfl (lv_at hl 2 rfl) ?_
      refine lv_icmp_eq (tgt := 115) hx hb d_Pai_startArcs_74 (by decide) (fun c_23 => ?_) (fun c_23 => ?_)
      · have hm := ite_t c_23 hm
        obtain ⟨x5_24, ex5_24⟩ : ∃ y : Int32, y = x5_19 + 1 := ⟨_, rfl⟩
        have hm := gB_at ex5_24 hm
        refine lv_iinc (v := x5_24) (lv' := [(5, .int x5_24), (0, .ref a0), (1, .ref a1), (3, .int x3_12), (4, .int x4_17)]) hx hb d_Pai_startArcs_115 hl (k := 4) rfl (by rw [ex5_24]; rfl) (by decide) rfl (fun ls hl => ?_)
        refine lv_goto (tgt := 62) hx hb d_Pai_startArcs_118 (by decide) ?_
        exact ih_62 _ hm _ _ rfl ls H locs (lv_sub hl [1, 2, 3, 4, 0] rfl) hP hD hS
      · have hm := ite_f c_23 hm
        refine lv_iload hx hb d_Pai_startArcs_77 (lv_at hl 3 rfl) ?_
        refine lv_iconst (v := 1) hx hb d_Pai_startArcs_79 (by decide) ?_
        refine lv_aload_n hx hb d_Pai_startArcs_80 rfl (lv_at hl 1 rfl) ?_
        refine va_get (D := (dC, dI)) (ci := 1) (v := .ref a1_tail) (C := R_Net) (T := T_Net) (N := 6) hx hb htt hin_Net hown hK hP 4 rfl rfl 1 (by decide) (htt _ kt_40) (fun _ h9 => h9) rfl d_Pai_startArcs_81 ?_
        refine lv_iload hx hb d_Pai_startArcs_84 (lv_at hl 4 rfl) ?_
        obtain ⟨hi_25, hm⟩ := gC_e hm
        refine va_iald hx hb hK hP 5 0 rfl rfl (inb_vp hi_25) d_Pai_startArcs_86 ?_
        refine lv_ishl hx hb d_Pai_startArcs_87 ?_
        refine lv_iconst (v := 1) hx hb d_Pai_startArcs_88 (by decide) ?_
        refine lv_aload_n hx hb d_Pai_startArcs_89 rfl (lv_at hl 1 rfl) ?_
        refine va_get (D := (dC, dI)) (ci := 1) (v := .ref a1_head) (C := R_Net) (T := T_Net) (N := 6) hx hb htt hin_Net hown hK hP 4 rfl rfl 2 (by decide) (htt _ kt_43) (fun _ h9 => h9) rfl d_Pai_startArcs_90 ?_
        refine lv_iload hx hb d_Pai_startArcs_93 (lv_at hl 4 rfl) ?_
        obtain ⟨hi_26, hm⟩ := gC_e hm
        refine va_iald hx hb hK hP 6 0 rfl rfl (inb_vp hi_26) d_Pai_startArcs_95 ?_
        refine lv_ishl hx hb d_Pai_startArcs_96 ?_
        refine lv_ior hx hb d_Pai_startArcs_97 ?_
        refine lv_iand hx hb d_Pai_startArcs_98 ?_
        refine lv_if_eq (tgt := 115) hx hb d_Pai_startArcs_99 (by decide) (fun c_27 => ?_) (fun c_27 => ?_)
        · have hm := ite_t c_27 hm
          obtain ⟨x5_28, ex5_28⟩ : ∃ y : Int32, y = x5_19 + 1 := ⟨_, rfl⟩
          have hm := gB_at ex5_28 hm
          refine lv_iinc (v := x5_28) (lv' := [(5, .int x5_28), (0, .ref a0), (1, .ref a1), (3, .int x3_12), (4, .int x4_17)]) hx hb d_Pai_startArcs_115 hl (k := 4) rfl (by rw [ex5_28]; rfl) (by decide) rfl (fun ls hl => ?_)
          refine lv_goto (tgt := 62) hx hb d_Pai_startArcs_118 (by decide) ?_
          exact ih_62 _ hm _ _ rfl ls H locs (lv_sub hl [1, 2, 3, 4, 0] rfl) hP hD hS
        · have hm := ite_f c_27 hm
          refine lv_aload_n hx hb d_Pai_startArcs_102 rfl (lv_at hl 0 rfl) ?_
          refine va_get (D := (dC, dI)) (ci := 2) (v := .ref a0_near) (C := R_Pai) (T := T_Pai) (N := 10) hx hb htt hin_Pai hown hK hP 0 rfl rfl 1 (by decide) (htt _ kt_83) (fun _ h9 => h9) rfl d_Pai_startArcs_103 ?_
          refine lv_iload_n hx hb d_Pai_startArcs_106 rfl (lv_at hl 2 rfl) ?_
          refine lv_dup2_11 hx hb d_Pai_startArcs_107 rfl rfl ?_
          obtain ⟨hi_29, hm⟩ := gC_e hm
          refine va_iald hx hb hK hP 1 0 rfl rfl (inb_vp hi_29) d_Pai_startArcs_108 ?_
          refine lv_iconst (v := 1) hx hb d_Pai_startArcs_109 (by decide) ?_
          refine lv_iload hx hb d_Pai_startArcs_110 (lv_at hl 4 rfl) ?_
          refine lv_ishl hx hb d_Pai_startArcs_112 ?_
          refine lv_ior hx hb d_Pai_startArcs_113 ?_
          obtain ⟨hi_30, hm⟩ := gC_e hm
          refine va_iast hx hb hK hP hD hS 1 0 rfl rfl (inb_vp hi_30) d_Pai_startArcs_114 (fun H locs hP hD hS => ?_)
          have hP : va_P (dC, dI) vwCl (wd_Pai_startArcs cI cJ cG cZ a0 a1 a0_paint a0_near a0_free a0_uses a1_near a1_tail a1_head r0_free v0_items_1 v0_evenly_2 v0_palette_3 v0_share_4 v0_bigger_5 v0_bigNow_6 (upd w0_near_20 x3_12.toNatClampNeg ((w0_near_20 x3_12.toNatClampNeg) ||| ((1 : Int32) <<< (x5_19 &&& 31)))) w0_uses_7 v1_nodes v1_arcCount v1_version w1_tail w1_head (gF w0_free ((0 : Int32).toNatClampNeg) (fillA 16 p2 (w0_free ((0 : Int32).toNatClampNeg))))) H := hP
          have hD : va_D A (wd_Pai_startArcs cI cJ cG cZ a0 a1 a0_paint a0_near a0_free a0_uses a1_near a1_tail a1_head r0_free v0_items_1 v0_evenly_2 v0_palette_3 v0_share_4 v0_bigger_5 v0_bigNow_6 (upd w0_near_20 x3_12.toNatClampNeg ((w0_near_20 x3_12.toNatClampNeg) ||| ((1 : Int32) <<< (x5_19 &&& 31)))) w0_uses_7 v1_nodes v1_arcCount v1_version w1_tail w1_head (gF w0_free ((0 : Int32).toNatClampNeg) (fillA 16 p2 (w0_free ((0 : Int32).toNatClampNeg))))) := hD
          obtain ⟨x5_31, ex5_31⟩ : ∃ y : Int32, y = x5_19 + 1 := ⟨_, rfl⟩
          have hm := gB_at ex5_31 hm
          refine lv_iinc (v := x5_31) (lv' := [(5, .int x5_31), (0, .ref a0), (1, .ref a1), (3, .int x3_12), (4, .int x4_17)]) hx hb d_Pai_startArcs_115 hl (k := 4) rfl (by rw [ex5_31]; rfl) (by decide) rfl (fun ls hl => ?_)
          refine lv_goto (tgt := 62) hx hb d_Pai_startArcs_118 (by decide) ?_
          exact ih_62 _ hm _ _ rfl ls H locs (lv_sub hl [1, 2, 3, 4, 0] rfl) hP hD hS
theorem d_Pai_shareEvenly_0 : decode prog_5_method_6_code 0 = .ok (.aload_n 0, 1) := by decide +kernel
theorem d_Pai_shareEvenly_1 : decode prog_5_method_6_code 1 = .ok (.iconst 1, 1) := by decide +kernel
theorem d_Pai_shareEvenly_2 : decode prog_5_method_6_code 2 = .ok (.putfield 67, 3) := by decide +kernel
theorem d_Pai_shareEvenly_5 : decode prog_5_method_6_code 5 = .ok (.aload_n 0, 1) := by decide +kernel
theorem d_Pai_shareEvenly_6 : decode prog_5_method_6_code 6 = .ok (.iload_n 1, 1) := by decide +kernel
theorem d_Pai_shareEvenly_7 : decode prog_5_method_6_code 7 = .ok (.putfield 71, 3) := by decide +kernel
theorem d_Pai_shareEvenly_10 : decode prog_5_method_6_code 10 = .ok (.aload_n 0, 1) := by decide +kernel
theorem d_Pai_shareEvenly_11 : decode prog_5_method_6_code 11 = .ok (.iload_n 1, 1) := by decide +kernel
theorem d_Pai_shareEvenly_12 : decode prog_5_method_6_code 12 = .ok (.ifCond .le 12, 3) := by decide +kernel
theorem d_Pai_shareEvenly_15 : decode prog_5_method_6_code 15 = .ok (.aload_n 0, 1) := by decide +kernel
theorem d_Pai_shareEvenly_16 : decode prog_5_method_6_code 16 = .ok (.getfield 58, 3) := by decide +kernel
theorem d_Pai_shareEvenly_19 : decode prog_5_method_6_code 19 = .ok (.iload_n 1, 1) := by decide +kernel
theorem d_Pai_shareEvenly_20 : decode prog_5_method_6_code 20 = .ok (.idiv, 1) := by decide +kernel
theorem d_Pai_shareEvenly_21 : decode prog_5_method_6_code 21 = .ok (.goto 4, 3) := by decide +kernel
theorem d_Pai_shareEvenly_24 : decode prog_5_method_6_code 24 = .ok (.iconst 0, 1) := by decide +kernel
theorem d_Pai_shareEvenly_25 : decode prog_5_method_6_code 25 = .ok (.putfield 74, 3) := by decide +kernel
theorem d_Pai_shareEvenly_28 : decode prog_5_method_6_code 28 = .ok (.aload_n 0, 1) := by decide +kernel
theorem d_Pai_shareEvenly_29 : decode prog_5_method_6_code 29 = .ok (.aload_n 0, 1) := by decide +kernel
theorem d_Pai_shareEvenly_30 : decode prog_5_method_6_code 30 = .ok (.getfield 58, 3) := by decide +kernel
theorem d_Pai_shareEvenly_33 : decode prog_5_method_6_code 33 = .ok (.aload_n 0, 1) := by decide +kernel
theorem d_Pai_shareEvenly_34 : decode prog_5_method_6_code 34 = .ok (.getfield 74, 3) := by decide +kernel
theorem d_Pai_shareEvenly_37 : decode prog_5_method_6_code 37 = .ok (.iload_n 1, 1) := by decide +kernel
theorem d_Pai_shareEvenly_38 : decode prog_5_method_6_code 38 = .ok (.imul, 1) := by decide +kernel
theorem d_Pai_shareEvenly_39 : decode prog_5_method_6_code 39 = .ok (.isub, 1) := by decide +kernel
theorem d_Pai_shareEvenly_40 : decode prog_5_method_6_code 40 = .ok (.putfield 77, 3) := by decide +kernel
theorem d_Pai_shareEvenly_43 : decode prog_5_method_6_code 43 = .ok (.return_, 1) := by decide +kernel
abbrev wd_Pai_shareEvenly (cI cJ cG cZ : ClassId) (a0 a0_paint a0_near a0_free a0_uses : Nat) (v0_items : Int32) (v0_evenly : Int32) (v0_palette : Int32) (v0_share : Int32) (v0_bigger : Int32) (v0_bigNow : Int32) : va_W := [(a0, .inr (2, [.ref a0_paint, .ref a0_near, .ref a0_free, .ref a0_uses, .int v0_items, .int v0_evenly, .int v0_palette, .int v0_share, .int v0_bigger, .int v0_bigNow]))]
abbrev us_Pai_shareEvenly : List Cond := .code y_Pai_shareEvenly prog_5_method_6_code 2 none :: gtbl
abbrev rm_Pai_shareEvenly : Room := { frames := 0, cells := 0, slots := 0, locals := 0 }
def m_Pai_shareEvenly (F : Nat) (v0_items : Int32) (v0_evenly : Int32) (v0_palette : Int32) (v0_share : Int32) (v0_bigger : Int32) (v0_bigNow : Int32) (p1 : Int32) : Option (Int32 × Int32 × Int32 × Int32) :=
  gB (α := Int32 → Option (Int32 × Int32 × Int32 × Int32)) (fun s_1 =>
    gB (v0_items - (s_1 * p1)) (fun f_2 =>
    some (1, p1, s_1, f_2))
  ) (fun J_25 =>
  if p1 ≤ 0 then (
    J_25 0
  ) else (
    gC (decide (¬ p1 = 0)) (
    J_25 (v0_items / p1))
  )
  )
set_option maxHeartbeats 4000000 in
set_option maxRecDepth 100000 in
theorem c_Pai_shareEvenly (l : Launch) (dC : Nat → ClassId) (dI : Nat → Nat → Nat) (cI cJ cG cZ : ClassId) (a0 a0_paint a0_near a0_free a0_uses : Nat) (sz : Nat) (F : Nat) (v0_items : Int32) (v0_evenly : Int32) (v0_palette : Int32) (v0_share : Int32) (v0_bigger : Int32) (v0_bigNow : Int32) (p1 : Int32) (o_v0_evenly : Int32) (o_v0_palette : Int32) (o_v0_share : Int32) (o_v0_bigger : Int32) (hm : m_Pai_shareEvenly F v0_items v0_evenly v0_palette v0_share v0_bigger v0_bigNow p1 = some (o_v0_evenly, o_v0_palette, o_v0_share, o_v0_bigger)) : Met l y_Pai_shareEvenly us_Pai_shareEvenly rm_Pai_shareEvenly (PcS (dC, dI) (tyL cI cJ cG cZ) [.ref a0, .int p1] sz (wd_Pai_shareEvenly cI cJ cG cZ a0 a0_paint a0_near a0_free a0_uses v0_items v0_evenly v0_palette v0_share v0_bigger v0_bigNow)) (va_Qv (fun (_ : Unit) => True) (fun _ t => PoS (dC, dI) (tyL cI cJ cG cZ) (wd_Pai_shareEvenly cI cJ cG cZ a0 a0_paint a0_near a0_free a0_uses v0_items o_v0_evenly o_v0_palette o_v0_share o_v0_bigger v0_bigNow) (va_A (wd_Pai_shareEvenly cI cJ cG cZ a0 a0_paint a0_near a0_free a0_uses v0_items v0_evenly v0_palette v0_share v0_bigger v0_bigNow) sz) t) (va_A (wd_Pai_shareEvenly cI cJ cG cZ a0 a0_paint a0_near a0_free a0_uses v0_items v0_evenly v0_palette v0_share v0_bigger v0_bigNow) sz)) 0 0 (va_A (wd_Pai_shareEvenly cI cJ cG cZ a0 a0_paint a0_near a0_free a0_uses v0_items v0_evenly v0_palette v0_share v0_bigger v0_bigNow) sz) := by
  refine Met.ofW (cc := prog_5_method_6_code) (maxL := 2) (ret := none) (by decide) rfl ?_
  intro p e s m args below meth c s₁ B hml hv
  obtain ⟨rfl, hsz, hP, hK, hD0, hNw⟩ := hv
  have hx := B.exec
  have hb := B.bytes
  have hr := B.returns
  have htt : ∀ w ∈ gtbl, w.before _ s = true := fun w h => atoms_spec (ws := us_Pai_shareEvenly) B.pre w (List.mem_cons_of_mem _ h)
  have hown : s.vm.findClass R_Pai = some m.cls := findClass_of_methodNamed B.named
  have hlocks := B.notSynchronized
  subst hsz
  have hD := hD0.self (sz := s.heap.size)
  generalize hAe : va_A (wd_Pai_shareEvenly cI cJ cG cZ a0 a0_paint a0_near a0_free a0_uses v0_items v0_evenly v0_palette v0_share v0_bigger v0_bigNow) s.heap.size = A at hD ⊢
  have hA : ∀ q : Nat, s.heap.size ≤ q → A q := fun q h => by rw [← hAe]; exact Or.inr h
  clear hAe hD0
  have hS : va_S A s.heap s.heap [] := va_S.rf
  have hl := lv_entry ([.ref a0, .int p1]) (n := 2) (Nat.le_of_ble_eq_true rfl)
  rw [lg_entry_eq]
  generalize (lg_sl ([.ref a0, .int p1]) ++ List.replicate (2 - (lg_sl ([.ref a0, .int p1])).length) Slot.unset).toArray = ls at hl ⊢
  have hl : lv_has ls 2 [(0, .ref a0), (1, .int p1)] := hl
  generalize hH : s.heap = H at hP ⊢
  have hS : va_S A s.heap H [] := hH ▸ hS
  generalize hLo : ([] : List Loc) = locs at hS ⊢
  clear hH hLo
  unfold m_Pai_shareEvenly at hm
  refine lv_aload_n hx hb d_Pai_shareEvenly_0 rfl (lv_at hl 0 rfl) ?_
  refine lv_iconst (v := 1) hx hb d_Pai_shareEvenly_1 (by decide) ?_
  refine va_put (D := (dC, dI)) (ci := 2) (v := .int 1) (ty := .boolean) (C := R_Pai) (T := T_Pai) (N := 10) hx hb htt hin_Pai ty_Pai tyok_Pai nm_Pai hown hK hP hD hS 0 rfl rfl 5 (by decide) (htt _ kt_87) (fun _ h9 => h9) rfl (by decide +kernel) rfl (by decide) (Nat.le_of_ble_eq_true rfl) d_Pai_shareEvenly_2 (fun H locs hP hD hS => ?_)
  have hP : va_P (dC, dI) vwCl (wd_Pai_shareEvenly cI cJ cG cZ a0 a0_paint a0_near a0_free a0_uses v0_items 1 v0_palette v0_share v0_bigger v0_bigNow) H := hP
  have hD : va_D A (wd_Pai_shareEvenly cI cJ cG cZ a0 a0_paint a0_near a0_free a0_uses v0_items 1 v0_palette v0_share v0_bigger v0_bigNow) := hD
  refine lv_aload_n hx hb d_Pai_shareEvenly_5 rfl (lv_at hl 0 rfl) ?_
  refine lv_iload_n hx hb d_Pai_shareEvenly_6 rfl (lv_at hl 1 rfl) ?_
  refine va_put (D := (dC, dI)) (ci := 2) (v := .int p1) (ty := .int) (C := R_Pai) (T := T_Pai) (N := 10) hx hb htt hin_Pai ty_Pai tyok_Pai nm_Pai hown hK hP hD hS 0 rfl rfl 6 (by decide) (htt _ kt_88) (fun _ h9 => h9) rfl (by decide +kernel) rfl rfl (Nat.le_of_ble_eq_true rfl) d_Pai_shareEvenly_7 (fun H locs hP hD hS => ?_)
  have hP : va_P (dC, dI) vwCl (wd_Pai_shareEvenly cI cJ cG cZ a0 a0_paint a0_near a0_free a0_uses v0_items 1 p1 v0_share v0_bigger v0_bigNow) H := hP
  have hD : va_D A (wd_Pai_shareEvenly cI cJ cG cZ a0 a0_paint a0_near a0_free a0_uses v0_items 1 p1 v0_share v0_bigger v0_bigNow) := hD
  refine lv_aload_n hx hb d_Pai_shareEvenly_10 rfl (lv_at hl 0 rfl) ?_
  refine lv_iload_n hx hb d_Pai_shareEvenly_11 rfl (lv_at hl 1 rfl) ?_
  obtain ⟨J_25, hJ_25, hm⟩ := gB_x hm
  have jp_25 : ∀ (s_1 : Int32) (ls : Array Slot) (H : Heap) (locs : List Loc), J_25 s_1 = some (o_v0_evenly, o_v0_palette, o_v0_share, o_v0_bigger) → lv_has ls 2 [(0, .ref a0), (1, .int p1)] → va_P (dC, dI) vwCl (wd_Pai_shareEvenly cI cJ cG cZ a0 a0_paint a0_near a0_free a0_uses v0_items 1 p1 v0_share v0_bigger v0_bigNow) H → va_D A (wd_Pai_shareEvenly cI cJ cG cZ a0 a0_paint a0_near a0_free a0_uses v0_items 1 p1 v0_share v0_bigger v0_bigNow) → va_S A s.heap H locs → W p l e (headSpec us_Pai_shareEvenly rm_Pai_shareEvenly).room s m ([.ref a0, .int p1] : List Value).toArray below meth c H locs 0 0 (MQ below (va_Qv (fun (_ : Unit) => True) (fun _ t => PoS (dC, dI) (tyL cI cJ cG cZ) (wd_Pai_shareEvenly cI cJ cG cZ a0 a0_paint a0_near a0_free a0_uses v0_items o_v0_evenly o_v0_palette o_v0_share o_v0_bigger v0_bigNow) A t) A) ([.ref a0, .int p1] : List Value).toArray s 0 0 A) (F0 m 25 ls [.int s_1, .ref a0]) := by
    intro s_1 ls H locs hm hl hP hD hS
    have hm := jn1 hJ_25 hm
    refine va_put (D := (dC, dI)) (ci := 2) (v := .int s_1) (ty := .int) (C := R_Pai) (T := T_Pai) (N := 10) hx hb htt hin_Pai ty_Pai tyok_Pai nm_Pai hown hK hP hD hS 0 rfl rfl 7 (by decide) (htt _ kt_89) (fun _ h9 => h9) rfl (by decide +kernel) rfl rfl (Nat.le_of_ble_eq_true rfl) d_Pai_shareEvenly_25 (fun H locs hP hD hS => ?_)
    have hP : va_P (dC, dI) vwCl (wd_Pai_shareEvenly cI cJ cG cZ a0 a0_paint a0_near a0_free a0_uses v0_items 1 p1 s_1 v0_bigger v0_bigNow) H := hP
    have hD : va_D A (wd_Pai_shareEvenly cI cJ cG cZ a0 a0_paint a0_near a0_free a0_uses v0_items 1 p1 s_1 v0_bigger v0_bigNow) := hD
    refine lv_aload_n hx hb d_Pai_shareEvenly_28 rfl (lv_at hl 0 rfl) ?_
    refine lv_aload_n hx hb d_Pai_shareEvenly_29 rfl (lv_at hl 0 rfl) ?_
    refine va_get (D := (dC, dI)) (ci := 2) (v := .int v0_items) (C := R_Pai) (T := T_Pai) (N := 10) hx hb htt hin_Pai hown hK hP 0 rfl rfl 4 (by decide) (htt _ kt_86) (fun _ h9 => h9) rfl d_Pai_shareEvenly_30 ?_
    refine lv_aload_n hx hb d_Pai_shareEvenly_33 rfl (lv_at hl 0 rfl) ?_
    refine va_get (D := (dC, dI)) (ci := 2) (v := .int s_1) (C := R_Pai) (T := T_Pai) (N := 10) hx hb htt hin_Pai hown hK hP 0 rfl rfl 7 (by decide) (htt _ kt_89) (fun _ h9 => h9) rfl d_Pai_shareEvenly_34 ?_
    refine lv_iload_n hx hb d_Pai_shareEvenly_37 rfl (lv_at hl 1 rfl) ?_
    refine lv_imul hx hb d_Pai_shareEvenly_38 ?_
    refine lv_isub hx hb d_Pai_shareEvenly_39 ?_
    refine lv_topi (fun f_2 ef_2 => ?_)
    have hm := gB_at ef_2 hm
    refine va_put (D := (dC, dI)) (ci := 2) (v := .int f_2) (ty := .int) (C := R_Pai) (T := T_Pai) (N := 10) hx hb htt hin_Pai ty_Pai tyok_Pai nm_Pai hown hK hP hD hS 0 rfl rfl 8 (by decide) (htt _ kt_90) (fun _ h9 => h9) rfl (by decide +kernel) rfl rfl (Nat.le_of_ble_eq_true rfl) d_Pai_shareEvenly_40 (fun H locs hP hD hS => ?_)
    have hP : va_P (dC, dI) vwCl (wd_Pai_shareEvenly cI cJ cG cZ a0 a0_paint a0_near a0_free a0_uses v0_items 1 p1 s_1 f_2 v0_bigNow) H := hP
    have hD : va_D A (wd_Pai_shareEvenly cI cJ cG cZ a0 a0_paint a0_near a0_free a0_uses v0_items 1 p1 s_1 f_2 v0_bigNow) := hD
    cases hm
    exact W.vret hx hb hr (fun t ht hW => ⟨⟨(), rfl, trivial, by rw [ht]; exact hP, va_K.moved hW.alike hK, hD⟩, hS.F ht⟩) hS.2.2 d_Pai_shareEvenly_43
  clear hJ_25
  refine lv_if_le (tgt := 24) hx hb d_Pai_shareEvenly_12 (by decide) (fun c_3 => ?_) (fun c_3 => ?_)
  · have hm := ite_t c_3 hm
    refine lv_iconst (v := 0) hx hb d_Pai_shareEvenly_24 (by decide) ?_
    exact jp_25 _ ls H locs hm (lv_sub hl [0, 1] rfl) hP hD hS
  · have hm := ite_f c_3 hm
    refine lv_aload_n hx hb d_Pai_shareEvenly_15 rfl (lv_at hl 0 rfl) ?_
    refine va_get (D := (dC, dI)) (ci := 2) (v := .int v0_items) (C := R_Pai) (T := T_Pai) (N := 10) hx hb htt hin_Pai hown hK hP 0 rfl rfl 4 (by decide) (htt _ kt_86) (fun _ h9 => h9) rfl d_Pai_shareEvenly_16 ?_
    refine lv_iload_n hx hb d_Pai_shareEvenly_19 rfl (lv_at hl 1 rfl) ?_
    obtain ⟨hn_4, hm⟩ := gC_e hm
    refine lv_idiv hx hb d_Pai_shareEvenly_20 (of_decide_eq_true hn_4) ?_
    refine lv_goto (tgt := 25) hx hb d_Pai_shareEvenly_21 (by decide) ?_
    exact jp_25 _ ls H locs hm (lv_sub hl [0, 1] rfl) hP hD hS
theorem d_Pai_starved_0 : decode prog_5_method_16_code 0 = .ok (.iconst 0, 1) := by decide +kernel
theorem d_Pai_starved_1 : decode prog_5_method_16_code 1 = .ok (.istore_n 3, 1) := by decide +kernel
theorem d_Pai_starved_2 : decode prog_5_method_16_code 2 = .ok (.iload_n 3, 1) := by decide +kernel
theorem d_Pai_starved_3 : decode prog_5_method_16_code 3 = .ok (.aload_n 0, 1) := by decide +kernel
theorem d_Pai_starved_4 : decode prog_5_method_16_code 4 = .ok (.getfield 71, 3) := by decide +kernel
theorem d_Pai_starved_7 : decode prog_5_method_16_code 7 = .ok (.if_icmp .ge 80, 3) := by decide +kernel
theorem d_Pai_starved_10 : decode prog_5_method_16_code 10 = .ok (.aload_n 0, 1) := by decide +kernel
theorem d_Pai_starved_11 : decode prog_5_method_16_code 11 = .ok (.getfield 74, 3) := by decide +kernel
theorem d_Pai_starved_14 : decode prog_5_method_16_code 14 = .ok (.aload_n 0, 1) := by decide +kernel
theorem d_Pai_starved_15 : decode prog_5_method_16_code 15 = .ok (.getfield 23, 3) := by decide +kernel
theorem d_Pai_starved_18 : decode prog_5_method_16_code 18 = .ok (.iload_n 3, 1) := by decide +kernel
theorem d_Pai_starved_19 : decode prog_5_method_16_code 19 = .ok (.iaload, 1) := by decide +kernel
theorem d_Pai_starved_20 : decode prog_5_method_16_code 20 = .ok (.isub, 1) := by decide +kernel
theorem d_Pai_starved_21 : decode prog_5_method_16_code 21 = .ok (.istore 4, 2) := by decide +kernel
theorem d_Pai_starved_23 : decode prog_5_method_16_code 23 = .ok (.iconst 0, 1) := by decide +kernel
theorem d_Pai_starved_24 : decode prog_5_method_16_code 24 = .ok (.istore 5, 2) := by decide +kernel
theorem d_Pai_starved_26 : decode prog_5_method_16_code 26 = .ok (.iload 5, 2) := by decide +kernel
theorem d_Pai_starved_28 : decode prog_5_method_16_code 28 = .ok (.aload_n 0, 1) := by decide +kernel
theorem d_Pai_starved_29 : decode prog_5_method_16_code 29 = .ok (.getfield 58, 3) := by decide +kernel
theorem d_Pai_starved_32 : decode prog_5_method_16_code 32 = .ok (.if_icmp .ge 42, 3) := by decide +kernel
theorem d_Pai_starved_35 : decode prog_5_method_16_code 35 = .ok (.iload 4, 2) := by decide +kernel
theorem d_Pai_starved_37 : decode prog_5_method_16_code 37 = .ok (.ifCond .le 37, 3) := by decide +kernel
theorem d_Pai_starved_40 : decode prog_5_method_16_code 40 = .ok (.iload_n 2, 1) := by decide +kernel
theorem d_Pai_starved_41 : decode prog_5_method_16_code 41 = .ok (.iload 5, 2) := by decide +kernel
theorem d_Pai_starved_43 : decode prog_5_method_16_code 43 = .ok (.ishr, 1) := by decide +kernel
theorem d_Pai_starved_44 : decode prog_5_method_16_code 44 = .ok (.iconst 1, 1) := by decide +kernel
theorem d_Pai_starved_45 : decode prog_5_method_16_code 45 = .ok (.iand, 1) := by decide +kernel
theorem d_Pai_starved_46 : decode prog_5_method_16_code 46 = .ok (.ifCond .eq 22, 3) := by decide +kernel
theorem d_Pai_starved_49 : decode prog_5_method_16_code 49 = .ok (.aload_n 0, 1) := by decide +kernel
theorem d_Pai_starved_50 : decode prog_5_method_16_code 50 = .ok (.getfield 20, 3) := by decide +kernel
theorem d_Pai_starved_53 : decode prog_5_method_16_code 53 = .ok (.iload_n 1, 1) := by decide +kernel
theorem d_Pai_starved_54 : decode prog_5_method_16_code 54 = .ok (.aaload, 1) := by decide +kernel
theorem d_Pai_starved_55 : decode prog_5_method_16_code 55 = .ok (.iload 5, 2) := by decide +kernel
theorem d_Pai_starved_57 : decode prog_5_method_16_code 57 = .ok (.iaload, 1) := by decide +kernel
theorem d_Pai_starved_58 : decode prog_5_method_16_code 58 = .ok (.iload_n 3, 1) := by decide +kernel
theorem d_Pai_starved_59 : decode prog_5_method_16_code 59 = .ok (.ishr, 1) := by decide +kernel
theorem d_Pai_starved_60 : decode prog_5_method_16_code 60 = .ok (.iconst 1, 1) := by decide +kernel
theorem d_Pai_starved_61 : decode prog_5_method_16_code 61 = .ok (.iand, 1) := by decide +kernel
theorem d_Pai_starved_62 : decode prog_5_method_16_code 62 = .ok (.ifCond .eq 6, 3) := by decide +kernel
theorem d_Pai_starved_65 : decode prog_5_method_16_code 65 = .ok (.iinc 4 (-1), 3) := by decide +kernel
theorem d_Pai_starved_68 : decode prog_5_method_16_code 68 = .ok (.iinc 5 1, 3) := by decide +kernel
theorem d_Pai_starved_71 : decode prog_5_method_16_code 71 = .ok (.goto (-45), 3) := by decide +kernel
theorem d_Pai_starved_74 : decode prog_5_method_16_code 74 = .ok (.iload 4, 2) := by decide +kernel
theorem d_Pai_starved_76 : decode prog_5_method_16_code 76 = .ok (.ifCond .le 5, 3) := by decide +kernel
theorem d_Pai_starved_79 : decode prog_5_method_16_code 79 = .ok (.iconst 1, 1) := by decide +kernel
theorem d_Pai_starved_80 : decode prog_5_method_16_code 80 = .ok (.ireturn, 1) := by decide +kernel
theorem d_Pai_starved_81 : decode prog_5_method_16_code 81 = .ok (.iinc 3 1, 3) := by decide +kernel
theorem d_Pai_starved_84 : decode prog_5_method_16_code 84 = .ok (.goto (-82), 3) := by decide +kernel
theorem d_Pai_starved_87 : decode prog_5_method_16_code 87 = .ok (.iconst 0, 1) := by decide +kernel
theorem d_Pai_starved_88 : decode prog_5_method_16_code 88 = .ok (.ireturn, 1) := by decide +kernel
abbrev wd_Pai_starved (cI cJ cG cZ : ClassId) (a0 a0_paint a0_near a0_free a0_uses : Nat) (r0_free : Nat → Nat) (v0_items : Int32) (v0_evenly : Int32) (v0_palette : Int32) (v0_share : Int32) (v0_bigger : Int32) (v0_bigNow : Int32) (w0_uses : Nat → Int32) (w0_free : Nat → Nat → Int32) : va_W := [(a0, .inr (2, [.ref a0_paint, .ref a0_near, .ref a0_free, .ref a0_uses, .int v0_items, .int v0_evenly, .int v0_palette, .int v0_share, .int v0_bigger, .int v0_bigNow])), (a0_free, .inl (cG, 18, .inr (.inr (.inr (.inr (gO r0_free 18)))))), (a0_uses, .inl (cI, 12, .inl w0_uses))] ++ rowsW r0_free cI 16 18 w0_free
abbrev we_Pai_starved (cI cJ cG cZ : ClassId) (a0 a0_paint a0_near a0_free a0_uses : Nat) (r0_free : Nat → Nat) (v0_items : Int32) (v0_evenly : Int32) (v0_palette : Int32) (v0_share : Int32) (v0_bigger : Int32) (v0_bigNow : Int32) (w0_uses : Nat → Int32) (w0_free : Nat → Nat → Int32) : va_W := [(a0, .inr (2, [.ref a0_paint, .ref a0_near, .ref a0_free, .ref a0_uses, .int v0_items, .int v0_evenly, .int v0_palette, .int v0_share, .int v0_bigger, .int v0_bigNow])), (a0_free, .inl (cG, 18, .inr (.inr (.inr (.inr (gO r0_free 18)))))), (a0_uses, .inl (cI, 12, .inl w0_uses))]
abbrev us_Pai_starved : List Cond := .code y_Pai_starved prog_5_method_16_code 6 (some .boolean) :: gtbl
abbrev rm_Pai_starved : Room := { frames := 0, cells := 0, slots := 0, locals := 0 }
def m_Pai_starved (F : Nat) (v0_items : Int32) (v0_evenly : Int32) (v0_palette : Int32) (v0_share : Int32) (v0_bigger : Int32) (v0_bigNow : Int32) (w0_uses : Nat → Int32) (w0_free : Nat → Nat → Int32) (p1 : Int32) (p2 : Int32) : Option (Int32) :=
  gL (fun (k_2 : Int32 → Option (Int32)) (x3_1 : Int32) =>
  if v0_palette ≤ x3_1 then (
    some 0
  ) else (
    gC (inb x3_1 12) (
    gB (v0_share - (w0_uses x3_1.toNatClampNeg)) (fun x4_4 =>
    gL (fun (k_26 : (Int32 × Int32) → Option (Int32)) (z_26 : Int32 × Int32) => match z_26 with
    | (x4_5, x5_6) =>
    gB (α := Option (Int32)) (
      if x4_5 ≤ 0 then (
        gB (x3_1 + 1) (fun x3_8 =>
        k_2 x3_8)
      ) else (
        some 1
      )
    ) (fun J_74 =>
    if v0_items ≤ x5_6 then (
      J_74
    ) else (
      if x4_5 ≤ 0 then (
        J_74
      ) else (
        if ((p2 >>> (x5_6 &&& 31)) &&& 1) = 0 then (
          gB (x5_6 + 1) (fun x5_12 =>
          k_26 (x4_5, x5_12))
        ) else (
          gC (inb p1 18) (
          gC (inb x5_6 16) (
          if (((w0_free p1.toNatClampNeg x5_6.toNatClampNeg) >>> (x3_1 &&& 31)) &&& 1) = 0 then (
            gB (x5_6 + 1) (fun x5_17 =>
            k_26 (x4_5, x5_17))
          ) else (
            gB (x4_5 + (-1)) (fun x4_18 =>
            gB (x5_6 + 1) (fun x5_19 =>
            k_26 (x4_18, x5_19)))
          )))
        )
      )
    )
    )
    ) F (x4_4, 0)))
  )
  ) F 0
set_option maxHeartbeats 4000000 in
set_option maxRecDepth 100000 in
theorem c_Pai_starved (l : Launch) (dC : Nat → ClassId) (dI : Nat → Nat → Nat) (cI cJ cG cZ : ClassId) (a0 a0_paint a0_near a0_free a0_uses : Nat) (r0_free : Nat → Nat) (sz : Nat) (F : Nat) (v0_items : Int32) (v0_evenly : Int32) (v0_palette : Int32) (v0_share : Int32) (v0_bigger : Int32) (v0_bigNow : Int32) (w0_uses : Nat → Int32) (w0_free : Nat → Nat → Int32) (p1 : Int32) (p2 : Int32) (ret : Int32) (hm : m_Pai_starved F v0_items v0_evenly v0_palette v0_share v0_bigger v0_bigNow w0_uses w0_free p1 p2 = some ret) : Met l y_Pai_starved us_Pai_starved rm_Pai_starved (PcS (dC, dI) (tyL cI cJ cG cZ) [.ref a0, .int p1, .int p2] sz (wd_Pai_starved cI cJ cG cZ a0 a0_paint a0_near a0_free a0_uses r0_free v0_items v0_evenly v0_palette v0_share v0_bigger v0_bigNow w0_uses w0_free)) (va_Qi (fun (r : Int32) (_ : Unit) => ret = r ∧ bz r) (fun _ t => PoS (dC, dI) (tyL cI cJ cG cZ) (wd_Pai_starved cI cJ cG cZ a0 a0_paint a0_near a0_free a0_uses r0_free v0_items v0_evenly v0_palette v0_share v0_bigger v0_bigNow w0_uses w0_free) (va_A (wd_Pai_starved cI cJ cG cZ a0 a0_paint a0_near a0_free a0_uses r0_free v0_items v0_evenly v0_palette v0_share v0_bigger v0_bigNow w0_uses w0_free) sz) t) (va_A (wd_Pai_starved cI cJ cG cZ a0 a0_paint a0_near a0_free a0_uses r0_free v0_items v0_evenly v0_palette v0_share v0_bigger v0_bigNow w0_uses w0_free) sz)) 0 0 (va_A (wd_Pai_starved cI cJ cG cZ a0 a0_paint a0_near a0_free a0_uses r0_free v0_items v0_evenly v0_palette v0_share v0_bigger v0_bigNow w0_uses w0_free) sz) := by
  refine Met.ofW (cc := prog_5_method_16_code) (maxL := 6) (ret := (some .boolean)) (by decide) rfl ?_
  intro p e s m args below meth c s₁ B hml hv
  obtain ⟨rfl, hsz, hP, hK, hD0, hNw⟩ := hv
  have hx := B.exec
  have hb := B.bytes
  have hr := B.returns
  have htt : ∀ w ∈ gtbl, w.before _ s = true := fun w h => atoms_spec (ws := us_Pai_starved) B.pre w (List.mem_cons_of_mem _ h)
  have hown : s.vm.findClass R_Pai = some m.cls := findClass_of_methodNamed B.named
  have hlocks := B.notSynchronized
  subst hsz
  have hD := hD0.self (sz := s.heap.size)
  generalize hAe : va_A (wd_Pai_starved cI cJ cG cZ a0 a0_paint a0_near a0_free a0_uses r0_free v0_items v0_evenly v0_palette v0_share v0_bigger v0_bigNow w0_uses w0_free) s.heap.size = A at hD ⊢
  have hA : ∀ q : Nat, s.heap.size ≤ q → A q := fun q h => by rw [← hAe]; exact Or.inr h
  clear hAe hD0
  have hS : va_S A s.heap s.heap [] := va_S.rf
  have hl := lv_entry ([.ref a0, .int p1, .int p2]) (n := 6) (Nat.le_of_ble_eq_true rfl)
  rw [lg_entry_eq]
  generalize (lg_sl ([.ref a0, .int p1, .int p2]) ++ List.replicate (6 - (lg_sl ([.ref a0, .int p1, .int p2])).length) Slot.unset).toArray = ls at hl ⊢
  have hl : lv_has ls 6 [(0, .ref a0), (1, .int p1), (2, .int p2)] := hl
  generalize hH : s.heap = H at hP ⊢
  have hS : va_S A s.heap H [] := hH ▸ hS
  generalize hLo : ([] : List Loc) = locs at hS ⊢
  clear hH hLo
  unfold m_Pai_starved at hm
  refine lv_iconst (v := 0) hx hb d_Pai_starved_0 (by decide) ?_
  refine lv_istore_n (lv' := [(3, .int 0), (0, .ref a0), (1, .int p1), (2, .int p2)]) hx hb d_Pai_starved_1 rfl hl (by decide) rfl (fun ls hl => ?_)
  refine gL_e (P := (fun (z_2 : Int32) => ∀ (x3_1 : Int32), x3_1 = z_2 → ∀ (ls : Array Slot) (H : Heap) (locs : List Loc), lv_has ls 6 [(0, .ref a0), (1, .int p1), (2, .int p2), (3, .int x3_1)] → va_P (dC, dI) vwCl (wd_Pai_starved cI cJ cG cZ a0 a0_paint a0_near a0_free a0_uses r0_free v0_items v0_evenly v0_palette v0_share v0_bigger v0_bigNow w0_uses w0_free) H → va_D A (wd_Pai_starved cI cJ cG cZ a0 a0_paint a0_near a0_free a0_uses r0_free v0_items v0_evenly v0_palette v0_share v0_bigger v0_bigNow w0_uses w0_free) → va_S A s.heap H locs → W p l e (headSpec us_Pai_starved rm_Pai_starved).room s m ([.ref a0, .int p1, .int p2] : List Value).toArray below meth c H locs 0 0 (MQ below (va_Qi (fun (r : Int32) (_ : Unit) => ret = r ∧ bz r) (fun _ t => PoS (dC, dI) (tyL cI cJ cG cZ) (wd_Pai_starved cI cJ cG cZ a0 a0_paint a0_near a0_free a0_uses r0_free v0_items v0_evenly v0_palette v0_share v0_bigger v0_bigNow w0_uses w0_free) A t) A) ([.ref a0, .int p1, .int p2] : List Value).toArray s 0 0 A) (F0 m 2 ls []))) hm (fun k_2 z_2 ih_2 hm => ?_) _ rfl ls H locs (lv_sub hl [1, 2, 3, 0] rfl) hP hD hS
  intro x3_1 hz ls H locs hl hP hD hS
  subst hz
  refine lv_iload_n hx hb d_Pai_starved_2 rfl (lv_at hl 3 rfl) ?_
  refine lv_aload_n hx hb d_Pai_starved_3 rfl (lv_at hl 0 rfl) ?_
  refine va_get (D := (dC, dI)) (ci := 2) (v := .int v0_palette) (C := R_Pai) (T := T_Pai) (N := 10) hx hb htt hin_Pai hown hK hP 0 rfl rfl 6 (by decide) (htt _ kt_88) (fun _ h9 => h9) rfl d_Pai_starved_4 ?_
  refine lv_icmp_ge (tgt := 87) hx hb d_Pai_starved_7 (by decide) (fun c_2 => ?_) (fun c_2 => ?_)
  · have hm := ite_t c_2 hm
    refine lv_iconst (v := 0) hx hb d_Pai_starved_87 (by decide) ?_
    cases hm
    exact W.zret (ty := .boolean) hx hb hr (bz_nar (by decide : bz 0)) (fun t ht hW => ⟨⟨_, (), rfl, ⟨rfl, (by decide : bz 0)⟩, by rw [ht]; exact hP, va_K.moved hW.alike hK, hD⟩, hS.F ht⟩) hS.2.2 d_Pai_starved_88
  · have hm := ite_f c_2 hm
    refine lv_aload_n hx hb d_Pai_starved_10 rfl (lv_at hl 0 rfl) ?_
    refine va_get (D := (dC, dI)) (ci := 2) (v := .int v0_share) (C := R_Pai) (T := T_Pai) (N := 10) hx hb htt hin_Pai hown hK hP 0 rfl rfl 7 (by decide) (htt _ kt_89) (fun _ h9 => h9) rfl d_Pai_starved_11 ?_
    refine lv_aload_n hx hb d_Pai_starved_14 rfl (lv_at hl 0 rfl) ?_
    refine va_get (D := (dC, dI)) (ci := 2) (v := .ref a0_uses) (C := R_Pai) (T := T_Pai) (N := 10) hx hb htt hin_Pai hown hK hP 0 rfl rfl 3 (by decide) (htt _ kt_85) (fun _ h9 => h9) rfl d_Pai_starved_15 ?_
    refine lv_iload_n hx hb d_Pai_starved_18 rfl (lv_at hl 3 rfl) ?_
    obtain ⟨hi_3, hm⟩ := gC_e hm
    refine va_iald hx hb hK hP 2 0 rfl rfl (inb_vp hi_3) d_Pai_starved_19 ?_
    refine lv_isub hx hb d_Pai_starved_20 ?_
    refine lv_topi (fun x4_4 ex4_4 => ?_)
    have hm := gB_at ex4_4 hm
    refine lv_istore (lv' := [(4, .int x4_4), (0, .ref a0), (1, .int p1), (2, .int p2), (3, .int x3_1)]) hx hb d_Pai_starved_21 hl (by decide) rfl (fun ls hl => ?_)
    refine lv_iconst (v := 0) hx hb d_Pai_starved_23 (by decide) ?_
    refine lv_istore (lv' := [(5, .int 0), (4, .int x4_4), (0, .ref a0), (1, .int p1), (2, .int p2), (3, .int x3_1)]) hx hb d_Pai_starved_24 hl (by decide) rfl (fun ls hl => ?_)
    refine gL_e (P := (fun (z_26 : Int32 × Int32) => ∀ (x4_5 : Int32), ∀ (x5_6 : Int32), z_26 = (x4_5, x5_6) → ∀ (ls : Array Slot) (H : Heap) (locs : List Loc), lv_has ls 6 [(0, .ref a0), (1, .int p1), (2, .int p2), (3, .int x3_1), (4, .int x4_5), (5, .int x5_6)] → va_P (dC, dI) vwCl (wd_Pai_starved cI cJ cG cZ a0 a0_paint a0_near a0_free a0_uses r0_free v0_items v0_evenly v0_palette v0_share v0_bigger v0_bigNow w0_uses w0_free) H → va_D A (wd_Pai_starved cI cJ cG cZ a0 a0_paint a0_near a0_free a0_uses r0_free v0_items v0_evenly v0_palette v0_share v0_bigger v0_bigNow w0_uses w0_free) → va_S A s.heap H locs → W p l e (headSpec us_Pai_starved rm_Pai_starved).room s m ([.ref a0, .int p1, .int p2] : List Value).toArray below meth c H locs 0 0 (MQ below (va_Qi (fun (r : Int32) (_ : Unit) => ret = r ∧ bz r) (fun _ t => PoS (dC, dI) (tyL cI cJ cG cZ) (wd_Pai_starved cI cJ cG cZ a0 a0_paint a0_near a0_free a0_uses r0_free v0_items v0_evenly v0_palette v0_share v0_bigger v0_bigNow w0_uses w0_free) A t) A) ([.ref a0, .int p1, .int p2] : List Value).toArray s 0 0 A) (F0 m 26 ls []))) hm (fun k_26 z_26 ih_26 hm => ?_) _ _ rfl ls H locs (lv_sub hl [2, 3, 4, 5, 1, 0] rfl) hP hD hS
    intro x4_5 x5_6 hz ls H locs hl hP hD hS
    subst hz
    dsimp only at hm
    refine lv_iload hx hb d_Pai_starved_26 (lv_at hl 5 rfl) ?_
    refine lv_aload_n hx hb d_Pai_starved_28 rfl (lv_at hl 0 rfl) ?_
    refine va_get (D := (dC, dI)) (ci := 2) (v := .int v0_items) (C := R_Pai) (T := T_Pai) (N := 10) hx hb htt hin_Pai hown hK hP 0 rfl rfl 4 (by decide) (htt _ kt_86) (fun _ h9 => h9) rfl d_Pai_starved_29 ?_
    obtain ⟨J_74, hJ_74, hm⟩ := gB_x hm
    have jp_74 : ∀ (ls : Array Slot) (H : Heap) (locs : List Loc), J_74 = some ret → lv_has ls 6 [(0, .ref a0), (1, .int p1), (2, .int p2), (3, .int x3_1), (4, .int x4_5)] → va_P (dC, dI) vwCl (wd_Pai_starved cI cJ cG cZ a0 a0_paint a0_near a0_free a0_uses r0_free v0_items v0_evenly v0_palette v0_share v0_bigger v0_bigNow w0_uses w0_free) H → va_D A (wd_Pai_starved cI cJ cG cZ a0 a0_paint a0_near a0_free a0_uses r0_free v0_items v0_evenly v0_palette v0_share v0_bigger v0_bigNow w0_uses w0_free) → va_S A s.heap H locs → W p l e (headSpec us_Pai_starved rm_Pai_starved).room s m ([.ref a0, .int p1, .int p2] : List Value).toArray below meth c H locs 0 0 (MQ below (va_Qi (fun (r : Int32) (_ : Unit) => ret = r ∧ bz r) (fun _ t => PoS (dC, dI) (tyL cI cJ cG cZ) (wd_Pai_starved cI cJ cG cZ a0 a0_paint a0_near a0_free a0_uses r0_free v0_items v0_evenly v0_palette v0_share v0_bigger v0_bigNow w0_uses w0_free) A t) A) ([.ref a0, .int p1, .int p2] : List Value).toArray s 0 0 A) (F0 m 74 ls []) := by
      intro ls H locs hm hl hP hD hS
      have hm := jn0 hJ_74 hm
      refine lv_iload hx hb d_Pai_starved_74 (lv_at hl 4 rfl) ?_
      refine lv_if_le (tgt := 81) hx hb d_Pai_starved_76 (by decide) (fun c_7 => ?_) (fun c_7 => ?_)
      · have hm := ite_t c_7 hm
        obtain ⟨x3_8, ex3_8⟩ : ∃ y : Int32, y = x3_1 + 1 := ⟨_, rfl⟩
        have hm := gB_at ex3_8 hm
        refine lv_iinc (v := x3_8) (lv' := [(3, .int x3_8), (0, .ref a0), (1, .int p1), (2, .int p2), (4, .int x4_5)]) hx hb d_Pai_starved_81 hl (k := 3) rfl (by rw [ex3_8]; rfl) (by decide) rfl (fun ls hl => ?_)
        refine lv_goto (tgt := 2) hx hb d_Pai_starved_84 (by decide) ?_
        exact ih_2 _ hm _ rfl ls H locs (lv_sub hl [1, 2, 3, 0] rfl) hP hD hS
      · have hm := ite_f c_7 hm
        refine lv_iconst (v := 1) hx hb d_Pai_starved_79 (by decide) ?_
        cases hm
        exact W.zret (ty := .boolean) hx hb hr (bz_nar (by decide : bz 1)) (fun t ht hW => ⟨⟨_, (), rfl, ⟨rfl, (by decide : bz 1)⟩, by rw [ht]; exact hP, va_K.moved hW.alike hK, hD⟩, hS.F ht⟩) hS.2.2 d_Pai_starved_80
    clear hJ_74
    refine lv_icmp_ge (tgt := 74) hx hb d_Pai_starved_32 (by decide) (fun c_9 => ?_) (fun c_9 => ?_)
    · have hm := ite_t c_9 hm
      exact jp_74 ls H locs hm (lv_sub hl [0, 1, 2, 3, 4] rfl) hP hD hS
    · have hm := ite_f c_9 hm
      refine lv_iload hx hb d_Pai_starved_35 (lv_at hl 4 rfl) ?_
      refine lv_if_le (tgt := 74) hx hb d_Pai_starved_37 (by decide) (fun c_10 => ?_) (fun c_10 => ?_)
      · have hm := ite_t c_10 hm
        exact jp_74 ls H locs hm (lv_sub hl [0, 1, 2, 3, 4] rfl) hP hD hS
      · have hm := ite_f c_10 hm
        refine lv_iload_n hx hb d_Pai_starved_40 rfl (lv_at hl 2 rfl) ?_
        refine lv_iload hx hb d_Pai_starved_41 (lv_at hl 5 rfl) ?_
        refine lv_ishr hx hb d_Pai_starved_43 ?_
        refine lv_iconst (v := 1) hx hb d_Pai_starved_44 (by decide) ?_
        refine lv_iand hx hb d_Pai_starved_45 ?_
        refine lv_if_eq (tgt := 68) hx hb d_Pai_starved_46 (by decide) (fun c_11 => ?_) (fun c_11 => ?_)
        · have hm := ite_t c_11 hm
          obtain ⟨x5_12, ex5_12⟩ : ∃ y : Int32, y = x5_6 + 1 := ⟨_, rfl⟩
          have hm := gB_at ex5_12 hm
          refine lv_iinc (v := x5_12) (lv' := [(5, .int x5_12), (0, .ref a0), (1, .int p1), (2, .int p2), (3, .int x3_1), (4, .int x4_5)]) hx hb d_Pai_starved_68 hl (k := 5) rfl (by rw [ex5_12]; rfl) (by decide) rfl (fun ls hl => ?_)
          refine lv_goto (tgt := 26) hx hb d_Pai_starved_71 (by decide) ?_
          exact ih_26 _ hm _ _ rfl ls H locs (lv_sub hl [1, 2, 3, 4, 5, 0] rfl) hP hD hS
        · have hm := ite_f c_11 hm
          refine lv_aload_n hx hb d_Pai_starved_49 rfl (lv_at hl 0 rfl) ?_
          refine va_get (D := (dC, dI)) (ci := 2) (v := .ref a0_free) (C := R_Pai) (T := T_Pai) (N := 10) hx hb htt hin_Pai hown hK hP 0 rfl rfl 2 (by decide) (htt _ kt_84) (fun _ h9 => h9) rfl d_Pai_starved_50 ?_
          refine lv_iload_n hx hb d_Pai_starved_53 rfl (lv_at hl 1 rfl) ?_
          obtain ⟨hi_13, hm⟩ := gC_e hm
          have hj_14 := inb_lt hi_13
          refine gx_ald hx hb hK hP 1 2 rfl rfl (inb_vp hi_13) d_Pai_starved_54 ?_
          refine lv_iload hx hb d_Pai_starved_55 (lv_at hl 5 rfl) ?_
          obtain ⟨hi_15, hm⟩ := gC_e hm
          refine va_iald hx hb hK hP (3 + p1.toNatClampNeg) 0 (rows_get rfl hj_14) rfl (inb_vp hi_15) d_Pai_starved_57 ?_
          refine lv_iload_n hx hb d_Pai_starved_58 rfl (lv_at hl 3 rfl) ?_
          refine lv_ishr hx hb d_Pai_starved_59 ?_
          refine lv_iconst (v := 1) hx hb d_Pai_starved_60 (by decide) ?_
          refine lv_iand hx hb d_Pai_starved_61 ?_
          refine lv_if_eq (tgt := 68) hx hb d_Pai_starved_62 (by decide) (fun c_16 => ?_) (fun c_16 => ?_)
          · have hm := ite_t c_16 hm
            obtain ⟨x5_17, ex5_17⟩ : ∃ y : Int32, y = x5_6 + 1 := ⟨_, rfl⟩
            have hm := gB_at ex5_17 hm
            refine lv_iinc (v := x5_17) (lv' := [(5, .int x5_17), (0, .ref a0), (1, .int p1), (2, .int p2), (3, .int x3_1), (4, .int x4_5)]) hx hb d_Pai_starved_68 hl (k := 5) rfl (by rw [ex5_17]; rfl) (by decide) rfl (fun ls hl => ?_)
            refine lv_goto (tgt := 26) hx hb d_Pai_starved_71 (by decide) ?_
            exact ih_26 _ hm _ _ rfl ls H locs (lv_sub hl [1, 2, 3, 4, 5, 0] rfl) hP hD hS
          · have hm := ite_f c_16 hm
            obtain ⟨x4_18, ex4_18⟩ : ∃ y : Int32, y = x4_5 + (-1) := ⟨_, rfl⟩
            have hm := gB_at ex4_18 hm
            refine lv_iinc (v := x4_18) (lv' := [(4, .int x4_18), (0, .ref a0), (1, .int p1), (2, .int p2), (3, .int x3_1), (5, .int x5_6)]) hx hb d_Pai_starved_65 hl (k := 4) rfl (by rw [ex4_18]; rfl) (by decide) rfl (fun ls hl => ?_)
            obtain ⟨x5_19, ex5_19⟩ : ∃ y : Int32, y = x5_6 + 1 := ⟨_, rfl⟩
            have hm := gB_at ex5_19 hm
            refine lv_iinc (v := x5_19) (lv' := [(5, .int x5_19), (4, .int x4_18), (0, .ref a0), (1, .int p1), (2, .int p2), (3, .int x3_1)]) hx hb d_Pai_starved_68 hl (k := 5) rfl (by rw [ex5_19]; rfl) (by decide) rfl (fun ls hl => ?_)
            refine lv_goto (tgt := 26) hx hb d_Pai_starved_71 (by decide) ?_
            exact ih_26 _ hm _ _ rfl ls H locs (lv_sub hl [2, 3, 4, 5, 1, 0] rfl) hP hD hS
theorem d_Pai_withoutEasy_0 : decode prog_5_method_11_code 0 = .ok (.iload_n 2, 1) := by decide +kernel
theorem d_Pai_withoutEasy_1 : decode prog_5_method_11_code 1 = .ok (.istore_n 3, 1) := by decide +kernel
theorem d_Pai_withoutEasy_2 : decode prog_5_method_11_code 2 = .ok (.iconst 1, 1) := by decide +kernel
theorem d_Pai_withoutEasy_3 : decode prog_5_method_11_code 3 = .ok (.istore 4, 2) := by decide +kernel
theorem d_Pai_withoutEasy_5 : decode prog_5_method_11_code 5 = .ok (.iconst 0, 1) := by decide +kernel
theorem d_Pai_withoutEasy_6 : decode prog_5_method_11_code 6 = .ok (.istore 5, 2) := by decide +kernel
theorem d_Pai_withoutEasy_8 : decode prog_5_method_11_code 8 = .ok (.iload 5, 2) := by decide +kernel
theorem d_Pai_withoutEasy_10 : decode prog_5_method_11_code 10 = .ok (.bipush 16, 2) := by decide +kernel
theorem d_Pai_withoutEasy_12 : decode prog_5_method_11_code 12 = .ok (.if_icmp .ge 83, 3) := by decide +kernel
theorem d_Pai_withoutEasy_15 : decode prog_5_method_11_code 15 = .ok (.iload 4, 2) := by decide +kernel
theorem d_Pai_withoutEasy_17 : decode prog_5_method_11_code 17 = .ok (.ifCond .eq 78, 3) := by decide +kernel
theorem d_Pai_withoutEasy_20 : decode prog_5_method_11_code 20 = .ok (.iconst 0, 1) := by decide +kernel
theorem d_Pai_withoutEasy_21 : decode prog_5_method_11_code 21 = .ok (.istore 4, 2) := by decide +kernel
theorem d_Pai_withoutEasy_23 : decode prog_5_method_11_code 23 = .ok (.iconst 0, 1) := by decide +kernel
theorem d_Pai_withoutEasy_24 : decode prog_5_method_11_code 24 = .ok (.istore 6, 2) := by decide +kernel
theorem d_Pai_withoutEasy_26 : decode prog_5_method_11_code 26 = .ok (.iload 6, 2) := by decide +kernel
theorem d_Pai_withoutEasy_28 : decode prog_5_method_11_code 28 = .ok (.aload_n 0, 1) := by decide +kernel
theorem d_Pai_withoutEasy_29 : decode prog_5_method_11_code 29 = .ok (.getfield 58, 3) := by decide +kernel
theorem d_Pai_withoutEasy_32 : decode prog_5_method_11_code 32 = .ok (.if_icmp .ge 57, 3) := by decide +kernel
theorem d_Pai_withoutEasy_35 : decode prog_5_method_11_code 35 = .ok (.iload_n 3, 1) := by decide +kernel
theorem d_Pai_withoutEasy_36 : decode prog_5_method_11_code 36 = .ok (.iload 6, 2) := by decide +kernel
theorem d_Pai_withoutEasy_38 : decode prog_5_method_11_code 38 = .ok (.ishr, 1) := by decide +kernel
theorem d_Pai_withoutEasy_39 : decode prog_5_method_11_code 39 = .ok (.iconst 1, 1) := by decide +kernel
theorem d_Pai_withoutEasy_40 : decode prog_5_method_11_code 40 = .ok (.iand, 1) := by decide +kernel
theorem d_Pai_withoutEasy_41 : decode prog_5_method_11_code 41 = .ok (.ifCond .eq 42, 3) := by decide +kernel
theorem d_Pai_withoutEasy_44 : decode prog_5_method_11_code 44 = .ok (.aload_n 0, 1) := by decide +kernel
theorem d_Pai_withoutEasy_45 : decode prog_5_method_11_code 45 = .ok (.getfield 20, 3) := by decide +kernel
theorem d_Pai_withoutEasy_48 : decode prog_5_method_11_code 48 = .ok (.iload_n 1, 1) := by decide +kernel
theorem d_Pai_withoutEasy_49 : decode prog_5_method_11_code 49 = .ok (.aaload, 1) := by decide +kernel
theorem d_Pai_withoutEasy_50 : decode prog_5_method_11_code 50 = .ok (.iload 6, 2) := by decide +kernel
theorem d_Pai_withoutEasy_52 : decode prog_5_method_11_code 52 = .ok (.iaload, 1) := by decide +kernel
theorem d_Pai_withoutEasy_53 : decode prog_5_method_11_code 53 = .ok (.invokestatic 117, 3) := by decide +kernel
theorem d_Pai_withoutEasy_56 : decode prog_5_method_11_code 56 = .ok (.aload_n 0, 1) := by decide +kernel
theorem d_Pai_withoutEasy_57 : decode prog_5_method_11_code 57 = .ok (.getfield 15, 3) := by decide +kernel
theorem d_Pai_withoutEasy_60 : decode prog_5_method_11_code 60 = .ok (.iload 6, 2) := by decide +kernel
theorem d_Pai_withoutEasy_62 : decode prog_5_method_11_code 62 = .ok (.iaload, 1) := by decide +kernel
theorem d_Pai_withoutEasy_63 : decode prog_5_method_11_code 63 = .ok (.iload_n 3, 1) := by decide +kernel
theorem d_Pai_withoutEasy_64 : decode prog_5_method_11_code 64 = .ok (.iand, 1) := by decide +kernel
theorem d_Pai_withoutEasy_65 : decode prog_5_method_11_code 65 = .ok (.invokestatic 117, 3) := by decide +kernel
theorem d_Pai_withoutEasy_68 : decode prog_5_method_11_code 68 = .ok (.if_icmp .le 15, 3) := by decide +kernel
theorem d_Pai_withoutEasy_71 : decode prog_5_method_11_code 71 = .ok (.iload_n 3, 1) := by decide +kernel
theorem d_Pai_withoutEasy_72 : decode prog_5_method_11_code 72 = .ok (.iconst 1, 1) := by decide +kernel
theorem d_Pai_withoutEasy_73 : decode prog_5_method_11_code 73 = .ok (.iload 6, 2) := by decide +kernel
theorem d_Pai_withoutEasy_75 : decode prog_5_method_11_code 75 = .ok (.ishl, 1) := by decide +kernel
theorem d_Pai_withoutEasy_76 : decode prog_5_method_11_code 76 = .ok (.iconst (-1), 1) := by decide +kernel
theorem d_Pai_withoutEasy_77 : decode prog_5_method_11_code 77 = .ok (.ixor, 1) := by decide +kernel
theorem d_Pai_withoutEasy_78 : decode prog_5_method_11_code 78 = .ok (.iand, 1) := by decide +kernel
theorem d_Pai_withoutEasy_79 : decode prog_5_method_11_code 79 = .ok (.istore_n 3, 1) := by decide +kernel
theorem d_Pai_withoutEasy_80 : decode prog_5_method_11_code 80 = .ok (.iconst 1, 1) := by decide +kernel
theorem d_Pai_withoutEasy_81 : decode prog_5_method_11_code 81 = .ok (.istore 4, 2) := by decide +kernel
theorem d_Pai_withoutEasy_83 : decode prog_5_method_11_code 83 = .ok (.iinc 6 1, 3) := by decide +kernel
theorem d_Pai_withoutEasy_86 : decode prog_5_method_11_code 86 = .ok (.goto (-60), 3) := by decide +kernel
theorem d_Pai_withoutEasy_89 : decode prog_5_method_11_code 89 = .ok (.iinc 5 1, 3) := by decide +kernel
theorem d_Pai_withoutEasy_92 : decode prog_5_method_11_code 92 = .ok (.goto (-84), 3) := by decide +kernel
theorem d_Pai_withoutEasy_95 : decode prog_5_method_11_code 95 = .ok (.iload_n 3, 1) := by decide +kernel
theorem d_Pai_withoutEasy_96 : decode prog_5_method_11_code 96 = .ok (.ireturn, 1) := by decide +kernel
abbrev wd_Pai_withoutEasy (cI cJ cG cZ : ClassId) (a0 a0_paint a0_near a0_free a0_uses : Nat) (r0_free : Nat → Nat) (v0_items : Int32) (v0_evenly : Int32) (v0_palette : Int32) (v0_share : Int32) (v0_bigger : Int32) (v0_bigNow : Int32) (w0_near : Nat → Int32) (w0_free : Nat → Nat → Int32) : va_W := [(a0, .inr (2, [.ref a0_paint, .ref a0_near, .ref a0_free, .ref a0_uses, .int v0_items, .int v0_evenly, .int v0_palette, .int v0_share, .int v0_bigger, .int v0_bigNow])), (a0_near, .inl (cI, 16, .inl w0_near)), (a0_free, .inl (cG, 18, .inr (.inr (.inr (.inr (gO r0_free 18))))))] ++ rowsW r0_free cI 16 18 w0_free
abbrev we_Pai_withoutEasy (cI cJ cG cZ : ClassId) (a0 a0_paint a0_near a0_free a0_uses : Nat) (r0_free : Nat → Nat) (v0_items : Int32) (v0_evenly : Int32) (v0_palette : Int32) (v0_share : Int32) (v0_bigger : Int32) (v0_bigNow : Int32) (w0_near : Nat → Int32) (w0_free : Nat → Nat → Int32) : va_W := [(a0, .inr (2, [.ref a0_paint, .ref a0_near, .ref a0_free, .ref a0_uses, .int v0_items, .int v0_evenly, .int v0_palette, .int v0_share, .int v0_bigger, .int v0_bigNow])), (a0_near, .inl (cI, 16, .inl w0_near)), (a0_free, .inl (cG, 18, .inr (.inr (.inr (.inr (gO r0_free 18))))))]
abbrev us_Pai_withoutEasy : List Cond := .code y_Pai_withoutEasy prog_5_method_11_code 7 (some .int) :: gtbl
abbrev rm_Pai_withoutEasy : Room := { frames := 1, cells := 0, slots := 0, locals := 20 }
def m_Pai_withoutEasy (F : Nat) (v0_items : Int32) (v0_evenly : Int32) (v0_palette : Int32) (v0_share : Int32) (v0_bigger : Int32) (v0_bigNow : Int32) (w0_near : Nat → Int32) (w0_free : Nat → Nat → Int32) (p1 : Int32) (p2 : Int32) : Option (Int32) :=
  gL (fun (k_8 : (Int32 × Int32 × Int32) → Option (Int32)) (z_8 : Int32 × Int32 × Int32) => match z_8 with
  | (x3_1, x4_2, x5_3) =>
  if (16 : Int32) ≤ x5_3 then (
    some x3_1
  ) else (
    if x4_2 = 0 then (
      some x3_1
    ) else (
      gL (fun (k_26 : (Int32 × Int32 × Int32) → Option (Int32)) (z_26 : Int32 × Int32 × Int32) => match z_26 with
      | (x3_6, x4_7, x6_8) =>
      if v0_items ≤ x6_8 then (
        gB (x5_3 + 1) (fun x5_10 =>
        k_8 (x3_6, x4_7, x5_10))
      ) else (
        if ((x3_6 >>> (x6_8 &&& 31)) &&& 1) = 0 then (
          gB (x6_8 + 1) (fun x6_12 =>
          k_26 (x3_6, x4_7, x6_12))
        ) else (
          gC (inb p1 18) (
          gC (inb x6_8 16) (
          gC (inb x6_8 16) (
          if (bitc (w0_free p1.toNatClampNeg x6_8.toNatClampNeg)) ≤ (bitc ((w0_near x6_8.toNatClampNeg) &&& x3_6)) then (
            gB (x6_8 + 1) (fun x6_18 =>
            k_26 (x3_6, x4_7, x6_18))
          ) else (
            gB (x3_6 &&& (((1 : Int32) <<< (x6_8 &&& 31)) ^^^ (-1))) (fun x3_19 =>
            gB (x6_8 + 1) (fun x6_20 =>
            k_26 (x3_19, 1, x6_20)))
          ))))
        )
      )
      ) F (x3_1, 0, 0)
    )
  )
  ) F (p2, 1, 0)
set_option maxHeartbeats 4000000 in
set_option maxRecDepth 100000 in
theorem c_Pai_withoutEasy (l : Launch) (dC : Nat → ClassId) (dI : Nat → Nat → Nat) (cI cJ cG cZ : ClassId) (a0 a0_paint a0_near a0_free a0_uses : Nat) (r0_free : Nat → Nat) (sz : Nat) (F : Nat) (v0_items : Int32) (v0_evenly : Int32) (v0_palette : Int32) (v0_share : Int32) (v0_bigger : Int32) (v0_bigNow : Int32) (w0_near : Nat → Int32) (w0_free : Nat → Nat → Int32) (p1 : Int32) (p2 : Int32) (ret : Int32) (hm : m_Pai_withoutEasy F v0_items v0_evenly v0_palette v0_share v0_bigger v0_bigNow w0_near w0_free p1 p2 = some ret) : Met l y_Pai_withoutEasy us_Pai_withoutEasy rm_Pai_withoutEasy (PcS (dC, dI) (tyL cI cJ cG cZ) [.ref a0, .int p1, .int p2] sz (wd_Pai_withoutEasy cI cJ cG cZ a0 a0_paint a0_near a0_free a0_uses r0_free v0_items v0_evenly v0_palette v0_share v0_bigger v0_bigNow w0_near w0_free)) (va_Qi (fun (r : Int32) (_ : Unit) => ret = r) (fun _ t => PoS (dC, dI) (tyL cI cJ cG cZ) (wd_Pai_withoutEasy cI cJ cG cZ a0 a0_paint a0_near a0_free a0_uses r0_free v0_items v0_evenly v0_palette v0_share v0_bigger v0_bigNow w0_near w0_free) (va_A (wd_Pai_withoutEasy cI cJ cG cZ a0 a0_paint a0_near a0_free a0_uses r0_free v0_items v0_evenly v0_palette v0_share v0_bigger v0_bigNow w0_near w0_free) sz) t) (va_A (wd_Pai_withoutEasy cI cJ cG cZ a0 a0_paint a0_near a0_free a0_uses r0_free v0_items v0_evenly v0_palette v0_share v0_bigger v0_bigNow w0_near w0_free) sz)) 0 0 (va_A (wd_Pai_withoutEasy cI cJ cG cZ a0 a0_paint a0_near a0_free a0_uses r0_free v0_items v0_evenly v0_palette v0_share v0_bigger v0_bigNow w0_near w0_free) sz) := by
  refine Met.ofW (cc := prog_5_method_11_code) (maxL := 7) (ret := (some .int)) (by decide) rfl ?_
  intro p e s m args below meth c s₁ B hml hv
  obtain ⟨rfl, hsz, hP, hK, hD0, hNw⟩ := hv
  have hx := B.exec
  have hb := B.bytes
  have hr := B.returns
  have htt : ∀ w ∈ gtbl, w.before _ s = true := fun w h => atoms_spec (ws := us_Pai_withoutEasy) B.pre w (List.mem_cons_of_mem _ h)
  have hown : s.vm.findClass R_Pai = some m.cls := findClass_of_methodNamed B.named
  have hlocks := B.notSynchronized
  subst hsz
  have hD := hD0.self (sz := s.heap.size)
  generalize hAe : va_A (wd_Pai_withoutEasy cI cJ cG cZ a0 a0_paint a0_near a0_free a0_uses r0_free v0_items v0_evenly v0_palette v0_share v0_bigger v0_bigNow w0_near w0_free) s.heap.size = A at hD ⊢
  have hA : ∀ q : Nat, s.heap.size ≤ q → A q := fun q h => by rw [← hAe]; exact Or.inr h
  clear hAe hD0
  have hS : va_S A s.heap s.heap [] := va_S.rf
  have hl := lv_entry ([.ref a0, .int p1, .int p2]) (n := 7) (Nat.le_of_ble_eq_true rfl)
  rw [lg_entry_eq]
  generalize (lg_sl ([.ref a0, .int p1, .int p2]) ++ List.replicate (7 - (lg_sl ([.ref a0, .int p1, .int p2])).length) Slot.unset).toArray = ls at hl ⊢
  have hl : lv_has ls 7 [(0, .ref a0), (1, .int p1), (2, .int p2)] := hl
  generalize hH : s.heap = H at hP ⊢
  have hS : va_S A s.heap H [] := hH ▸ hS
  generalize hLo : ([] : List Loc) = locs at hS ⊢
  clear hH hLo
  unfold m_Pai_withoutEasy at hm
  refine lv_iload_n hx hb d_Pai_withoutEasy_0 rfl (lv_at hl 2 rfl) ?_
  refine lv_istore_n (lv' := [(3, .int p2), (0, .ref a0), (1, .int p1), (2, .int p2)]) hx hb d_Pai_withoutEasy_1 rfl hl (by decide) rfl (fun ls hl => ?_)
  refine lv_iconst (v := 1) hx hb d_Pai_withoutEasy_2 (by decide) ?_
  refine lv_istore (lv' := [(4, .int 1), (3, .int p2), (0, .ref a0), (1, .int p1), (2, .int p2)]) hx hb d_Pai_withoutEasy_3 hl (by decide) rfl (fun ls hl => ?_)
  refine lv_iconst (v := 0) hx hb d_Pai_withoutEasy_5 (by decide) ?_
  refine lv_istore (lv' := [(5, .int 0), (4, .int 1), (3, .int p2), (0, .ref a0), (1, .int p1), (2, .int p2)]) hx hb d_Pai_withoutEasy_6 hl (by decide) rfl (fun ls hl => ?_)
  refine gL_e (P := (fun (z_8 : Int32 × Int32 × Int32) => ∀ (x3_1 : Int32), ∀ (x4_2 : Int32), ∀ (x5_3 : Int32), z_8 = (x3_1, x4_2, x5_3) → ∀ (ls : Array Slot) (H : Heap) (locs : List Loc), lv_has ls 7 [(0, .ref a0), (1, .int p1), (3, .int x3_1), (4, .int x4_2), (5, .int x5_3)] → va_P (dC, dI) vwCl (wd_Pai_withoutEasy cI cJ cG cZ a0 a0_paint a0_near a0_free a0_uses r0_free v0_items v0_evenly v0_palette v0_share v0_bigger v0_bigNow w0_near w0_free) H → va_D A (wd_Pai_withoutEasy cI cJ cG cZ a0 a0_paint a0_near a0_free a0_uses r0_free v0_items v0_evenly v0_palette v0_share v0_bigger v0_bigNow w0_near w0_free) → va_S A s.heap H locs → W p l e (headSpec us_Pai_withoutEasy rm_Pai_withoutEasy).room s m ([.ref a0, .int p1, .int p2] : List Value).toArray below meth c H locs 0 0 (MQ below (va_Qi (fun (r : Int32) (_ : Unit) => ret = r) (fun _ t => PoS (dC, dI) (tyL cI cJ cG cZ) (wd_Pai_withoutEasy cI cJ cG cZ a0 a0_paint a0_near a0_free a0_uses r0_free v0_items v0_evenly v0_palette v0_share v0_bigger v0_bigNow w0_near w0_free) A t) A) ([.ref a0, .int p1, .int p2] : List Value).toArray s 0 0 A) (F0 m 8 ls []))) hm (fun k_8 z_8 ih_8 hm => ?_) _ _ _ rfl ls H locs (lv_sub hl [3, 4, 2, 1, 0] rfl) hP hD hS
  intro x3_1 x4_2 x5_3 hz ls H locs hl hP hD hS
  subst hz
  dsimp only at hm
  refine lv_iload hx hb d_Pai_withoutEasy_8 (lv_at hl 4 rfl) ?_
  refine lv_bipush (v := 16) hx hb d_Pai_withoutEasy_10 (by decide) ?_
  refine lv_icmp_ge (tgt := 95) hx hb d_Pai_withoutEasy_12 (by decide) (fun c_4 => ?_) (fun c_4 => ?_)
  · have hm := ite_t c_4 hm
    refine lv_iload_n hx hb d_Pai_withoutEasy_95 rfl (lv_at hl 2 rfl) ?_
    cases hm
    exact W.iret hx hb hr (fun t ht hW => ⟨⟨_, (), rfl, rfl, by rw [ht]; exact hP, va_K.moved hW.alike hK, hD⟩, hS.F ht⟩) hS.2.2 d_Pai_withoutEasy_96
  · have hm := ite_f c_4 hm
    refine lv_iload hx hb d_Pai_withoutEasy_15 (lv_at hl 3 rfl) ?_
    refine lv_if_eq (tgt := 95) hx hb d_Pai_withoutEasy_17 (by decide) (fun c_5 => ?_) (fun c_5 => ?_)
    · have hm := ite_t c_5 hm
      refine lv_iload_n hx hb d_Pai_withoutEasy_95 rfl (lv_at hl 2 rfl) ?_
      cases hm
      exact W.iret hx hb hr (fun t ht hW => ⟨⟨_, (), rfl, rfl, by rw [ht]; exact hP, va_K.moved hW.alike hK, hD⟩, hS.F ht⟩) hS.2.2 d_Pai_withoutEasy_96
    · have hm := ite_f c_5 hm
      refine lv_iconst (v := 0) hx hb d_Pai_withoutEasy_20 (by decide) ?_
      refine lv_istore (lv' := [(4, .int 0), (0, .ref a0), (1, .int p1), (3, .int x3_1), (5, .int x5_3)]) hx hb d_Pai_withoutEasy_21 hl (by decide) rfl (fun ls hl => ?_)
      refine lv_iconst (v := 0) hx hb d_Pai_withoutEasy_23 (by decide) ?_
      refine lv_istore (lv' := [(6, .int 0), (4, .int 0), (0, .ref a0), (1, .int p1), (3, .int x3_1), (5, .int x5_3)]) hx hb d_Pai_withoutEasy_24 hl (by decide) rfl (fun ls hl => ?_)
      refine gL_e (P := (fun (z_26 : Int32 × Int32 × Int32) => ∀ (x3_6 : Int32), ∀ (x4_7 : Int32), ∀ (x6_8 : Int32), z_26 = (x3_6, x4_7, x6_8) → ∀ (ls : Array Slot) (H : Heap) (locs : List Loc), lv_has ls 7 [(0, .ref a0), (1, .int p1), (3, .int x3_6), (4, .int x4_7), (5, .int x5_3), (6, .int x6_8)] → va_P (dC, dI) vwCl (wd_Pai_withoutEasy cI cJ cG cZ a0 a0_paint a0_near a0_free a0_uses r0_free v0_items v0_evenly v0_palette v0_share v0_bigger v0_bigNow w0_near w0_free) H → va_D A (wd_Pai_withoutEasy cI cJ cG cZ a0 a0_paint a0_near a0_free a0_uses r0_free v0_items v0_evenly v0_palette v0_share v0_bigger v0_bigNow w0_near w0_free) → va_S A s.heap H locs → W p l e (headSpec us_Pai_withoutEasy rm_Pai_withoutEasy).room s m ([.ref a0, .int p1, .int p2] : List Value).toArray below meth c H locs 0 0 (MQ below (va_Qi (fun (r : Int32) (_ : Unit) => ret = r) (fun _ t => PoS (dC, dI) (tyL cI cJ cG cZ) (wd_Pai_withoutEasy cI cJ cG cZ a0 a0_paint a0_near a0_free a0_uses r0_free v0_items v0_evenly v0_palette v0_share v0_bigger v0_bigNow w0_near w0_free) A t) A) ([.ref a0, .int p1, .int p2] : List Value).toArray s 0 0 A) (F0 m 26 ls []))) hm (fun k_26 z_26 ih_26 hm => ?_) _ _ _ rfl ls H locs (lv_sub hl [2, 3, 4, 1, 5, 0] rfl) hP hD hS
      intro x3_6 x4_7 x6_8 hz ls H locs hl hP hD hS
      subst hz
      dsimp only at hm
      refine lv_iload hx hb d_Pai_withoutEasy_26 (lv_at hl 5 rfl) ?_
      refine lv_aload_n hx hb d_Pai_withoutEasy_28 rfl (lv_at hl 0 rfl) ?_
      refine va_get (D := (dC, dI)) (ci := 2) (v := .int v0_items) (C := R_Pai) (T := T_Pai) (N := 10) hx hb htt hin_Pai hown hK hP 0 rfl rfl 4 (by decide) (htt _ kt_86) (fun _ h9 => h9) rfl d_Pai_withoutEasy_29 ?_
      refine lv_icmp_ge (tgt := 89) hx hb d_Pai_withoutEasy_32 (by decide) (fun c_9 => ?_) (fun c_9 => ?_)
      · have hm := ite_t c_9 hm
        obtain ⟨x5_10, ex5_10⟩ : ∃ y : Int32, y = x5_3 + 1 := ⟨_, rfl⟩
        have hm := gB_at ex5_10 hm
        refine lv_iinc (v := x5_10) (lv' := [(5, .int x5_10), (0, .ref a0), (1, .int p1), (3, .int x3_6), (4, .int x4_7), (6, .int x6_8)]) hx hb d_Pai_withoutEasy_89 hl (k := 4) rfl (by rw [ex5_10]; rfl) (by decide) rfl (fun ls hl => ?_)
        refine lv_goto (tgt := 8) hx hb d_Pai_withoutEasy_92 (by decide) ?_
        exact ih_8 _ hm _ _ _ rfl ls H locs (lv_sub hl [1, 2, 3, 4, 0] rfl) hP hD hS
      · have hm := ite_f c_9 hm
        refine lv_iload_n hx hb d_Pai_withoutEasy_35 rfl (lv_at hl 2 rfl) ?_
        refine lv_iload hx hb d_Pai_withoutEasy_36 (lv_at hl 5 rfl) ?_
        refine lv_ishr hx hb d_Pai_withoutEasy_38 ?_
        refine lv_iconst (v := 1) hx hb d_Pai_withoutEasy_39 (by decide) ?_
        refine lv_iand hx hb d_Pai_withoutEasy_40 ?_
        refine lv_if_eq (tgt := 83) hx hb d_Pai_withoutEasy_41 (by decide) (fun c_11 => ?_) (fun c_11 => ?_)
        · have hm := ite_t c_11 hm
          obtain ⟨x6_12, ex6_12⟩ : ∃ y : Int32, y = x6_8 + 1 := ⟨_, rfl⟩
          have hm := gB_at ex6_12 hm
          refine lv_iinc (v := x6_12) (lv' := [(6, .int x6_12), (0, .ref a0), (1, .int p1), (3, .int x3_6), (4, .int x4_7), (5, .int x5_3)]) hx hb d_Pai_withoutEasy_83 hl (k := 5) rfl (by rw [ex6_12]; rfl) (by decide) rfl (fun ls hl => ?_)
          refine lv_goto (tgt := 26) hx hb d_Pai_withoutEasy_86 (by decide) ?_
          exact ih_26 _ hm _ _ _ rfl ls H locs (lv_sub hl [1, 2, 3, 4, 5, 0] rfl) hP hD hS
        · have hm := ite_f c_11 hm
          refine lv_aload_n hx hb d_Pai_withoutEasy_44 rfl (lv_at hl 0 rfl) ?_
          refine va_get (D := (dC, dI)) (ci := 2) (v := .ref a0_free) (C := R_Pai) (T := T_Pai) (N := 10) hx hb htt hin_Pai hown hK hP 0 rfl rfl 2 (by decide) (htt _ kt_84) (fun _ h9 => h9) rfl d_Pai_withoutEasy_45 ?_
          refine lv_iload_n hx hb d_Pai_withoutEasy_48 rfl (lv_at hl 1 rfl) ?_
          obtain ⟨hi_13, hm⟩ := gC_e hm
          have hj_14 := inb_lt hi_13
          refine gx_ald hx hb hK hP 2 2 rfl rfl (inb_vp hi_13) d_Pai_withoutEasy_49 ?_
          refine lv_iload hx hb d_Pai_withoutEasy_50 (lv_at hl 5 rfl) ?_
          obtain ⟨hi_15, hm⟩ := gC_e hm
          refine va_iald hx hb hK hP (3 + p1.toNatClampNeg) 0 (rows_get rfl hj_14) rfl (inb_vp hi_15) d_Pai_withoutEasy_52 ?_
          refine gx_bit hx hb hml hown htt kt_322 hK hNw hP hD hS hA hl.1 (lv_room (Nat.le_of_ble_eq_true rfl)) (Nat.le_of_ble_eq_true rfl) (Nat.le_of_ble_eq_true rfl) (Nat.zero_le _) (Nat.zero_le _) d_Pai_withoutEasy_53 (fun H locs hP hD hS => ?_)
          refine lv_aload_n hx hb d_Pai_withoutEasy_56 rfl (lv_at hl 0 rfl) ?_
          refine va_get (D := (dC, dI)) (ci := 2) (v := .ref a0_near) (C := R_Pai) (T := T_Pai) (N := 10) hx hb htt hin_Pai hown hK hP 0 rfl rfl 1 (by decide) (htt _ kt_83) (fun _ h9 => h9) rfl d_Pai_withoutEasy_57 ?_
          refine lv_iload hx hb d_Pai_withoutEasy_60 (lv_at hl 5 rfl) ?_
          obtain ⟨hi_16, hm⟩ := gC_e hm
          refine va_iald hx hb hK hP 1 0 rfl rfl (inb_vp hi_16) d_Pai_withoutEasy_62 ?_
          refine lv_iload_n hx hb d_Pai_withoutEasy_63 rfl (lv_at hl 2 rfl) ?_
          refine lv_iand hx hb d_Pai_withoutEasy_64 ?_
          refine gx_bit hx hb hml hown htt kt_322 hK hNw hP hD hS hA hl.1 (lv_room (Nat.le_of_ble_eq_true rfl)) (Nat.le_of_ble_eq_true rfl) (Nat.le_of_ble_eq_true rfl) (Nat.zero_le _) (Nat.zero_le _) d_Pai_withoutEasy_65 (fun H locs hP hD hS => ?_)
          refine lv_icmp_le (tgt := 83) hx hb d_Pai_withoutEasy_68 (by decide) (fun c_17 => ?_) (fun c_17 => ?_)
          · have hm := ite_t c_17 hm
            obtain ⟨x6_18, ex6_18⟩ : ∃ y : Int32, y = x6_8 + 1 := ⟨_, rfl⟩
            have hm := gB_at ex6_18 hm
            refine lv_iinc (v := x6_18) (lv' := [(6, .int x6_18), (0, .ref a0), (1, .int p1), (3, .int x3_6), (4, .int x4_7), (5, .int x5_3)]) hx hb d_Pai_withoutEasy_83 hl (k := 5) rfl (by rw [ex6_18]; rfl) (by decide) rfl (fun ls hl => ?_)
            refine lv_goto (tgt := 26) hx hb d_Pai_withoutEasy_86 (by decide) ?_
            exact ih_26 _ hm _ _ _ rfl ls H locs (lv_sub hl [1, 2, 3, 4, 5, 0] rfl) hP hD hS
          · have hm := ite_f c_17 hm
            refine lv_iload_n hx hb d_Pai_withoutEasy_71 rfl (lv_at hl 2 rfl) ?_
            refine lv_iconst (v := 1) hx hb d_Pai_withoutEasy_72 (by decide) ?_
            refine lv_iload hx hb d_Pai_withoutEasy_73 (lv_at hl 5 rfl) ?_
            refine lv_ishl hx hb d_Pai_withoutEasy_75 ?_
            refine lv_iconst (v := (-1)) hx hb d_Pai_withoutEasy_76 (by decide) ?_
            refine lv_ixor hx hb d_Pai_withoutEasy_77 ?_
            refine lv_iand hx hb d_Pai_withoutEasy_78 ?_
            refine lv_topi (fun x3_19 ex3_19 => ?_)
            have hm := gB_at ex3_19 hm
            refine lv_istore_n (lv' := [(3, .int x3_19), (0, .ref a0), (1, .int p1), (4, .int x4_7), (5, .int x5_3), (6, .int x6_8)]) hx hb d_Pai_withoutEasy_79 rfl hl (by decide) rfl (fun ls hl => ?_)
            refine lv_iconst (v := 1) hx hb d_Pai_withoutEasy_80 (by decide) ?_
            refine lv_istore (lv' := [(4, .int 1), (3, .int x3_19), (0, .ref a0), (1, .int p1), (5, .int x5_3), (6, .int x6_8)]) hx hb d_Pai_withoutEasy_81 hl (by decide) rfl (fun ls hl => ?_)
            obtain ⟨x6_20, ex6_20⟩ : ∃ y : Int32, y = x6_8 + 1 := ⟨_, rfl⟩
            have hm := gB_at ex6_20 hm
            refine lv_iinc (v := x6_20) (lv' := [(6, .int x6_20), (4, .int 1), (3, .int x3_19), (0, .ref a0), (1, .int p1), (5, .int x5_3)]) hx hb d_Pai_withoutEasy_83 hl (k := 5) rfl (by rw [ex6_20]; rfl) (by decide) rfl (fun ls hl => ?_)
            refine lv_goto (tgt := 26) hx hb d_Pai_withoutEasy_86 (by decide) ?_
            exact ih_26 _ hm _ _ _ rfl ls H locs (lv_sub hl [3, 4, 2, 1, 5, 0] rfl) hP hD hS
