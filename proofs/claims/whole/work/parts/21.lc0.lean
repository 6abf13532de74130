theorem d_LC_takeColourFrom_0 : decode prog_3_method_5_code 0 = .ok (.iconst 0, 1) := by decide +kernel
theorem d_LC_takeColourFrom_1 : decode prog_3_method_5_code 1 = .ok (.istore 4, 2) := by decide +kernel
theorem d_LC_takeColourFrom_3 : decode prog_3_method_5_code 3 = .ok (.iload 4, 2) := by decide +kernel
theorem d_LC_takeColourFrom_5 : decode prog_3_method_5_code 5 = .ok (.aload_n 1, 1) := by decide +kernel
theorem d_LC_takeColourFrom_6 : decode prog_3_method_5_code 6 = .ok (.getfield 35, 3) := by decide +kernel
theorem d_LC_takeColourFrom_9 : decode prog_3_method_5_code 9 = .ok (.if_icmp .ge 31, 3) := by decide +kernel
theorem d_LC_takeColourFrom_12 : decode prog_3_method_5_code 12 = .ok (.iload_n 2, 1) := by decide +kernel
theorem d_LC_takeColourFrom_13 : decode prog_3_method_5_code 13 = .ok (.iload 4, 2) := by decide +kernel
theorem d_LC_takeColourFrom_15 : decode prog_3_method_5_code 15 = .ok (.ishr, 1) := by decide +kernel
theorem d_LC_takeColourFrom_16 : decode prog_3_method_5_code 16 = .ok (.iconst 1, 1) := by decide +kernel
theorem d_LC_takeColourFrom_17 : decode prog_3_method_5_code 17 = .ok (.iand, 1) := by decide +kernel
theorem d_LC_takeColourFrom_18 : decode prog_3_method_5_code 18 = .ok (.ifCond .eq 16, 3) := by decide +kernel
theorem d_LC_takeColourFrom_21 : decode prog_3_method_5_code 21 = .ok (.aload_n 0, 1) := by decide +kernel
theorem d_LC_takeColourFrom_22 : decode prog_3_method_5_code 22 = .ok (.getfield 9, 3) := by decide +kernel
theorem d_LC_takeColourFrom_25 : decode prog_3_method_5_code 25 = .ok (.iload 4, 2) := by decide +kernel
theorem d_LC_takeColourFrom_27 : decode prog_3_method_5_code 27 = .ok (.dup2, 1) := by decide +kernel
theorem d_LC_takeColourFrom_28 : decode prog_3_method_5_code 28 = .ok (.iaload, 1) := by decide +kernel
theorem d_LC_takeColourFrom_29 : decode prog_3_method_5_code 29 = .ok (.iload_n 3, 1) := by decide +kernel
theorem d_LC_takeColourFrom_30 : decode prog_3_method_5_code 30 = .ok (.iconst (-1), 1) := by decide +kernel
theorem d_LC_takeColourFrom_31 : decode prog_3_method_5_code 31 = .ok (.ixor, 1) := by decide +kernel
theorem d_LC_takeColourFrom_32 : decode prog_3_method_5_code 32 = .ok (.iand, 1) := by decide +kernel
theorem d_LC_takeColourFrom_33 : decode prog_3_method_5_code 33 = .ok (.iastore, 1) := by decide +kernel
theorem d_LC_takeColourFrom_34 : decode prog_3_method_5_code 34 = .ok (.iinc 4 1, 3) := by decide +kernel
theorem d_LC_takeColourFrom_37 : decode prog_3_method_5_code 37 = .ok (.goto (-34), 3) := by decide +kernel
theorem d_LC_takeColourFrom_40 : decode prog_3_method_5_code 40 = .ok (.return_, 1) := by decide +kernel
abbrev wd_LC_takeColourFrom (cI cJ cG cZ : ClassId) (a0 a1 a0_open a0_clash a0_weight a0_common a0_gain a0_sum a1_near a1_tail a1_head : Nat) (v0_rest : Int32) (v0_versionSeen : Int32) (v0_restSeen : Int32) (w0_open : Nat → Int32) (v1_nodes : Int32) (v1_arcCount : Int32) (v1_version : Int32) : va_W := [(a0, .inr (4, [.ref a0_open, .ref a0_clash, .ref a0_weight, .ref a0_common, .ref a0_gain, .ref a0_sum, .int v0_rest, .int v0_versionSeen, .int v0_restSeen])), (a0_open, .inl (cI, 12, .inl w0_open)), (a1, .inr (1, [.ref a1_near, .ref a1_tail, .ref a1_head, .int v1_nodes, .int v1_arcCount, .int v1_version]))]
abbrev us_LC_takeColourFrom : List Cond := .code y_LC_takeColourFrom prog_3_method_5_code 5 none :: gtbl
abbrev rm_LC_takeColourFrom : Room := { frames := 0, cells := 0, slots := 0, locals := 0 }
def m_LC_takeColourFrom (F : Nat) (v0_rest : Int32) (v0_versionSeen : Int32) (v0_restSeen : Int32) (w0_open : Nat → Int32) (v1_nodes : Int32) (v1_arcCount : Int32) (v1_version : Int32) (p2 : Int32) (p3 : Int32) : Option ((Nat → Int32)) :=
  gL (fun (k_3 : (Int32 × (Nat → Int32)) → Option ((Nat → Int32))) (z_3 : Int32 × (Nat → Int32)) => match z_3 with
  | (x4_1, w0_open_2) =>
  if v1_nodes ≤ x4_1 then (
    some w0_open_2
  ) else (
    if ((p2 >>> (x4_1 &&& 31)) &&& 1) = 0 then (
      gB (x4_1 + 1) (fun x4_5 =>
      k_3 (x4_5, w0_open_2))
    ) else (
      gC (inb x4_1 12) (
      gC (inb x4_1 12) (
      gB (x4_1 + 1) (fun x4_8 =>
      k_3 (x4_8, upd w0_open_2 x4_1.toNatClampNeg ((w0_open_2 x4_1.toNatClampNeg) &&& (p3 ^^^ (-1)))))))
    )
  )
  ) F (0, w0_open)
set_option maxHeartbeats 4000000 in
set_option maxRecDepth 100000 in
theorem c_LC_takeColourFrom (l : Launch) (dC : Nat → ClassId) (dI : Nat → Nat → Nat) (cI cJ cG cZ : ClassId) (a0 a1 a0_open a0_clash a0_weight a0_common a0_gain a0_sum a1_near a1_tail a1_head : Nat) (sz : Nat) (F : Nat) (v0_rest : Int32) (v0_versionSeen : Int32) (v0_restSeen : Int32) (w0_open : Nat → Int32) (v1_nodes : Int32) (v1_arcCount : Int32) (v1_version : Int32) (p2 : Int32) (p3 : Int32) (o_w0_open : Nat → Int32) (hm : m_LC_takeColourFrom F v0_rest v0_versionSeen v0_restSeen w0_open v1_nodes v1_arcCount v1_version p2 p3 = some o_w0_open) : Met l y_LC_takeColourFrom us_LC_takeColourFrom rm_LC_takeColourFrom (PcS (dC, dI) (tyL cI cJ cG cZ) [.ref a0, .ref a1, .int p2, .int p3] sz (wd_LC_takeColourFrom cI cJ cG cZ a0 a1 a0_open a0_clash a0_weight a0_common a0_gain a0_sum a1_near a1_tail a1_head v0_rest v0_versionSeen v0_restSeen w0_open v1_nodes v1_arcCount v1_version)) (va_Qv (fun (_ : Unit) => True) (fun _ t => PoS (dC, dI) (tyL cI cJ cG cZ) (wd_LC_takeColourFrom cI cJ cG cZ a0 a1 a0_open a0_clash a0_weight a0_common a0_gain a0_sum a1_near a1_tail a1_head v0_rest v0_versionSeen v0_restSeen o_w0_open v1_nodes v1_arcCount v1_version) (va_A (wd_LC_takeColourFrom cI cJ cG cZ a0 a1 a0_open a0_clash a0_weight a0_common a0_gain a0_sum a1_near a1_tail a1_head v0_rest v0_versionSeen v0_restSeen w0_open v1_nodes v1_arcCount v1_version) sz) t) (va_A (wd_LC_takeColourFrom cI cJ cG cZ a0 a1 a0_open a0_clash a0_weight a0_common a0_gain a0_sum a1_near a1_tail a1_head v0_rest v0_versionSeen v0_restSeen w0_open v1_nodes v1_arcCount v1_version) sz)) 0 0 (va_A (wd_LC_takeColourFrom cI cJ cG cZ a0 a1 a0_open a0_clash a0_weight a0_common a0_gain a0_sum a1_near a1_tail a1_head v0_rest v0_versionSeen v0_restSeen w0_open v1_nodes v1_arcCount v1_version) sz) := by
  refine Met.ofW (cc := prog_3_method_5_code) (maxL := 5) (ret := none) (by decide) rfl ?_
  intro p e s m args below meth c s₁ B hml hv
  obtain ⟨rfl, hsz, hP, hK, hD0, hNw⟩ := hv
  have hx := B.exec
  have hb := B.bytes
  have hr := B.returns
  have htt : ∀ w ∈ gtbl, w.before _ s = true := fun w h => atoms_spec (ws := us_LC_takeColourFrom) B.pre w (List.mem_cons_of_mem _ h)
  have hown : s.vm.findClass R_LC = some m.cls := findClass_of_methodNamed B.named
  have hlocks := B.notSynchronized
  subst hsz
  have hD := hD0.self (sz := s.heap.size)
  generalize hAe : va_A (wd_LC_takeColourFrom cI cJ cG cZ a0 a1 a0_open a0_clash a0_weight a0_common a0_gain a0_sum a1_near a1_tail a1_head v0_rest v0_versionSeen v0_restSeen w0_open v1_nodes v1_arcCount v1_version) s.heap.size = A at hD ⊢
  have hA : ∀ q : Nat, s.heap.size ≤ q → A q := fun q h => by rw [← hAe]; exact Or.inr h
  clear hAe hD0
  have hS : va_S A s.heap s.heap [] := va_S.rf
  have hl := lv_entry ([.ref a0, .ref a1, .int p2, .int p3]) (n := 5) (Nat.le_of_ble_eq_true rfl)
  rw [lg_entry_eq]
  generalize (lg_sl ([.ref a0, .ref a1, .int p2, .int p3]) ++ List.replicate (5 - (lg_sl ([.ref a0, .ref a1, .int p2, .int p3])).length) Slot.unset).toArray = ls at hl ⊢
  have hl : lv_has ls 5 [(0, .ref a0), (1, .ref a1), (2, .int p2), (3, .int p3)] := hl
  generalize hH : s.heap = H at hP ⊢
  have hS : va_S A s.heap H [] := hH ▸ hS
  generalize hLo : ([] : List Loc) = locs at hS ⊢
  clear hH hLo
  unfold m_LC_takeColourFrom at hm
  refine lv_iconst (v := 0) hx hb d_LC_takeColourFrom_0 (by decide) ?_
  refine lv_istore (lv' := [(4, .int 0), (0, .ref a0), (1, .ref a1), (2, .int p2), (3, .int p3)]) hx hb d_LC_takeColourFrom_1 hl (by decide) rfl (fun ls hl => ?_)
  refine gL_e (P := (fun (z_3 : Int32 × (Nat → Int32)) => ∀ (x4_1 : Int32), ∀ (w0_open_2 : Nat → Int32), z_3 = (x4_1, w0_open_2) → ∀ (ls : Array Slot) (H : Heap) (locs : List Loc), lv_has ls 5 [(0, .ref a0), (1, .ref a1), (2, .int p2), (3, .int p3), (4, .int x4_1)] → va_P (dC, dI) vwCl (wd_LC_takeColourFrom cI cJ cG cZ a0 a1 a0_open a0_clash a0_weight a0_common a0_gain a0_sum a1_near a1_tail a1_head v0_rest v0_versionSeen v0_restSeen w0_open_2 v1_nodes v1_arcCount v1_version) H → va_D A (wd_LC_takeColourFrom cI cJ cG cZ a0 a1 a0_open a0_clash a0_weight a0_common a0_gain a0_sum a1_near a1_tail a1_head v0_rest v0_versionSeen v0_restSeen w0_open_2 v1_nodes v1_arcCount v1_version) → va_S A s.heap H locs → W p l e (headSpec us_LC_takeColourFrom rm_LC_takeColourFrom).room s m ([.ref a0, .ref a1, .int p2, .int p3] : List Value).toArray below meth c H locs 0 0 (MQ below (va_Qv (fun (_ : Unit) => True) (fun _ t => PoS (dC, dI) (tyL cI cJ cG cZ) (wd_LC_takeColourFrom cI cJ cG cZ a0 a1 a0_open a0_clash a0_weight a0_common a0_gain a0_sum a1_near a1_tail a1_head v0_rest v0_versionSeen v0_restSeen o_w0_open v1_nodes v1_arcCount v1_version) A t) A) ([.ref a0, .ref a1, .int p2, .int p3] : List Value).toArray s 0 0 A) (F0 m 3 ls []))) hm (fun k_3 z_3 ih_3 hm => ?_) _ _ rfl ls H locs (lv_sub hl [1, 2, 3, 4, 0] rfl) hP hD hS
  intro x4_1 w0_open_2 hz ls H locs hl hP hD hS
  subst hz
  dsimp only at hm
  refine lv_iload hx hb d_LC_takeColourFrom_3 (lv_at hl 4 rfl) ?_
  refine lv_aload_n hx hb d_LC_takeColourFrom_5 rfl (lv_at hl 1 rfl) ?_
  refine va_get (D := (dC, dI)) (ci := 1) (v := .int v1_nodes) (C := R_Net) (T := T_Net) (N := 6) hx hb htt hin_Net hown hK hP 2 rfl rfl 3 (by decide) (htt _ kt_48) (fun _ h9 => h9) rfl d_LC_takeColourFrom_6 ?_
  refine lv_icmp_ge (tgt := 40) hx hb d_LC_takeColourFrom_9 (by decide) (fun c_3 => ?_) (fun c_3 => ?_)
  · have hm := ite_t c_3 hm
    cases hm
    exact W.vret hx hb hr (fun t ht hW => ⟨⟨(), rfl, trivial, by rw [ht]; exact hP, va_K.moved hW.alike hK, hD⟩, hS.F ht⟩) hS.2.2 d_LC_takeColourFrom_40
  · have hm := ite_f c_3 hm
    refine lv_iload_n hx hb d_LC_takeColourFrom_12 rfl (lv_at hl 2 rfl) ?_
    refine lv_iload hx hb d_LC_takeColourFrom_13 (lv_at hl 4 rfl) ?_
    refine lv_ishr hx hb d_LC_takeColourFrom_15 ?_
    refine lv_iconst (v := 1) hx hb d_LC_takeColourFrom_16 (by decide) ?_
    refine lv_iand hx hb d_LC_takeColourFrom_17 ?_
    refine lv_if_eq (tgt := 34) hx hb d_LC_takeColourFrom_18 (by decide) (fun c_4 => ?_) (fun c_4 => ?_)
    · have hm := ite_t c_4 hm
      obtain ⟨x4_5, ex4_5⟩ : ∃ y : Int32, y = x4_1 + 1 := ⟨_, rfl⟩
      have hm := gB_at ex4_5 hm
      refine lv_iinc (v := x4_5) (lv' := [(4, .int x4_5), (0, .ref a0), (1, .ref a1), (2, .int p2), (3, .int p3)]) hx hb d_LC_takeColourFrom_34 hl (k := 4) rfl (by rw [ex4_5]; rfl) (by decide) rfl (fun ls hl => ?_)
      refine lv_goto (tgt := 3) hx hb d_LC_takeColourFrom_37 (by decide) ?_
      exact ih_3 _ hm _ _ rfl ls H locs (lv_sub hl [1, 2, 3, 4, 0] rfl) hP hD hS
    · have hm := ite_f c_4 hm
      refine lv_aload_n hx hb d_LC_takeColourFrom_21 rfl (lv_at hl 0 rfl) ?_
      refine va_get (D := (dC, dI)) (ci := 4) (v := .ref a0_open) (C := R_LC) (T := T_LC) (N := 9) hx hb htt hin_LC hown hK hP 0 rfl rfl 0 (by decide) (htt _ kt_146) (fun _ h9 => h9) rfl d_LC_takeColourFrom_22 ?_
      refine lv_iload hx hb d_LC_takeColourFrom_25 (lv_at hl 4 rfl) ?_
      refine lv_dup2_11 hx hb d_LC_takeColourFrom_27 rfl rfl ?_
      obtain ⟨hi_6, hm⟩ := gC_e hm
      refine va_iald hx hb hK hP 1 0 rfl rfl (inb_vp hi_6) d_LC_takeColourFrom_28 ?_
      refine lv_iload_n hx hb d_LC_takeColourFrom_29 rfl (lv_at hl 3 rfl) ?_
      refine lv_iconst (v := (-1)) hx hb d_LC_takeColourFrom_30 (by decide) ?_
      refine lv_ixor hx hb d_LC_takeColourFrom_31 ?_
      refine lv_iand hx hb d_LC_takeColourFrom_32 ?_
      obtain ⟨hi_7, hm⟩ := gC_e hm
      refine va_iast hx hb hK hP hD hS 1 0 rfl rfl (inb_vp hi_7) d_LC_takeColourFrom_33 (fun H locs hP hD hS => ?_)
      have hP : va_P (dC, dI) vwCl (wd_LC_takeColourFrom cI cJ cG cZ a0 a1 a0_open a0_clash a0_weight a0_common a0_gain a0_sum a1_near a1_tail a1_head v0_rest v0_versionSeen v0_restSeen (upd w0_open_2 x4_1.toNatClampNeg ((w0_open_2 x4_1.toNatClampNeg) &&& (p3 ^^^ (-1)))) v1_nodes v1_arcCount v1_version) H := hP
      have hD : va_D A (wd_LC_takeColourFrom cI cJ cG cZ a0 a1 a0_open a0_clash a0_weight a0_common a0_gain a0_sum a1_near a1_tail a1_head v0_rest v0_versionSeen v0_restSeen (upd w0_open_2 x4_1.toNatClampNeg ((w0_open_2 x4_1.toNatClampNeg) &&& (p3 ^^^ (-1)))) v1_nodes v1_arcCount v1_version) := hD
      obtain ⟨x4_8, ex4_8⟩ : ∃ y : Int32, y = x4_1 + 1 := ⟨_, rfl⟩
      have hm := gB_at ex4_8 hm
      refine lv_iinc (v := x4_8) (lv' := [(4, .int x4_8), (0, .ref a0), (1, .ref a1), (2, .int p2), (3, .int p3)]) hx hb d_LC_takeColourFrom_34 hl (k := 4) rfl (by rw [ex4_8]; rfl) (by decide) rfl (fun ls hl => ?_)
      refine lv_goto (tgt := 3) hx hb d_LC_takeColourFrom_37 (by decide) ?_
      exact ih_3 _ hm _ _ rfl ls H locs (lv_sub hl [1, 2, 3, 4, 0] rfl) hP hD hS
theorem d_LC_openTo_0 : decode prog_3_method_6_code 0 = .ok (.iconst 0, 1) := by decide +kernel
theorem d_LC_openTo_1 : decode prog_3_method_6_code 1 = .ok (.istore_n 3, 1) := by decide +kernel
theorem d_LC_openTo_2 : decode prog_3_method_6_code 2 = .ok (.iconst 0, 1) := by decide +kernel
theorem d_LC_openTo_3 : decode prog_3_method_6_code 3 = .ok (.istore 4, 2) := by decide +kernel
theorem d_LC_openTo_5 : decode prog_3_method_6_code 5 = .ok (.iload 4, 2) := by decide +kernel
theorem d_LC_openTo_7 : decode prog_3_method_6_code 7 = .ok (.aload_n 1, 1) := by decide +kernel
theorem d_LC_openTo_8 : decode prog_3_method_6_code 8 = .ok (.getfield 35, 3) := by decide +kernel
theorem d_LC_openTo_11 : decode prog_3_method_6_code 11 = .ok (.if_icmp .ge 28, 3) := by decide +kernel
theorem d_LC_openTo_14 : decode prog_3_method_6_code 14 = .ok (.iload_n 2, 1) := by decide +kernel
theorem d_LC_openTo_15 : decode prog_3_method_6_code 15 = .ok (.iload 4, 2) := by decide +kernel
theorem d_LC_openTo_17 : decode prog_3_method_6_code 17 = .ok (.ishr, 1) := by decide +kernel
theorem d_LC_openTo_18 : decode prog_3_method_6_code 18 = .ok (.iconst 1, 1) := by decide +kernel
theorem d_LC_openTo_19 : decode prog_3_method_6_code 19 = .ok (.iand, 1) := by decide +kernel
theorem d_LC_openTo_20 : decode prog_3_method_6_code 20 = .ok (.ifCond .eq 13, 3) := by decide +kernel
theorem d_LC_openTo_23 : decode prog_3_method_6_code 23 = .ok (.iload_n 3, 1) := by decide +kernel
theorem d_LC_openTo_24 : decode prog_3_method_6_code 24 = .ok (.aload_n 0, 1) := by decide +kernel
theorem d_LC_openTo_25 : decode prog_3_method_6_code 25 = .ok (.getfield 9, 3) := by decide +kernel
theorem d_LC_openTo_28 : decode prog_3_method_6_code 28 = .ok (.iload 4, 2) := by decide +kernel
theorem d_LC_openTo_30 : decode prog_3_method_6_code 30 = .ok (.iaload, 1) := by decide +kernel
theorem d_LC_openTo_31 : decode prog_3_method_6_code 31 = .ok (.ior, 1) := by decide +kernel
theorem d_LC_openTo_32 : decode prog_3_method_6_code 32 = .ok (.istore_n 3, 1) := by decide +kernel
theorem d_LC_openTo_33 : decode prog_3_method_6_code 33 = .ok (.iinc 4 1, 3) := by decide +kernel
theorem d_LC_openTo_36 : decode prog_3_method_6_code 36 = .ok (.goto (-31), 3) := by decide +kernel
theorem d_LC_openTo_39 : decode prog_3_method_6_code 39 = .ok (.iload_n 3, 1) := by decide +kernel
theorem d_LC_openTo_40 : decode prog_3_method_6_code 40 = .ok (.ireturn, 1) := by decide +kernel
abbrev wd_LC_openTo (cI cJ cG cZ : ClassId) (a0 a1 a0_open a0_clash a0_weight a0_common a0_gain a0_sum a1_near a1_tail a1_head : Nat) (v0_rest : Int32) (v0_versionSeen : Int32) (v0_restSeen : Int32) (w0_open : Nat → Int32) (v1_nodes : Int32) (v1_arcCount : Int32) (v1_version : Int32) : va_W := [(a0, .inr (4, [.ref a0_open, .ref a0_clash, .ref a0_weight, .ref a0_common, .ref a0_gain, .ref a0_sum, .int v0_rest, .int v0_versionSeen, .int v0_restSeen])), (a0_open, .inl (cI, 12, .inl w0_open)), (a1, .inr (1, [.ref a1_near, .ref a1_tail, .ref a1_head, .int v1_nodes, .int v1_arcCount, .int v1_version]))]
abbrev us_LC_openTo : List Cond := .code y_LC_openTo prog_3_method_6_code 5 (some .int) :: gtbl
abbrev rm_LC_openTo : Room := { frames := 0, cells := 0, slots := 0, locals := 0 }
def m_LC_openTo (F : Nat) (v0_rest : Int32) (v0_versionSeen : Int32) (v0_restSeen : Int32) (w0_open : Nat → Int32) (v1_nodes : Int32) (v1_arcCount : Int32) (v1_version : Int32) (p2 : Int32) : Option (Int32) :=
  gL (fun (k_5 : (Int32 × Int32) → Option (Int32)) (z_5 : Int32 × Int32) => match z_5 with
  | (x3_1, x4_2) =>
  if v1_nodes ≤ x4_2 then (
    some x3_1
  ) else (
    if ((p2 >>> (x4_2 &&& 31)) &&& 1) = 0 then (
      gB (x4_2 + 1) (fun x4_5 =>
      k_5 (x3_1, x4_5))
    ) else (
      gC (inb x4_2 12) (
      gB (x3_1 ||| (w0_open x4_2.toNatClampNeg)) (fun x3_7 =>
      gB (x4_2 + 1) (fun x4_8 =>
      k_5 (x3_7, x4_8))))
    )
  )
  ) F (0, 0)
set_option maxHeartbeats 4000000 in
set_option maxRecDepth 100000 in
theorem c_LC_openTo (l : Launch) (dC : Nat → ClassId) (dI : Nat → Nat → Nat) (cI cJ cG cZ : ClassId) (a0 a1 a0_open a0_clash a0_weight a0_common a0_gain a0_sum a1_near a1_tail a1_head : Nat) (sz : Nat) (F : Nat) (v0_rest : Int32) (v0_versionSeen : Int32) (v0_restSeen : Int32) (w0_open : Nat → Int32) (v1_nodes : Int32) (v1_arcCount : Int32) (v1_version : Int32) (p2 : Int32) (ret : Int32) (hm : m_LC_openTo F v0_rest v0_versionSeen v0_restSeen w0_open v1_nodes v1_arcCount v1_version p2 = some ret) : Met l y_LC_openTo us_LC_openTo rm_LC_openTo (PcS (dC, dI) (tyL cI cJ cG cZ) [.ref a0, .ref a1, .int p2] sz (wd_LC_openTo cI cJ cG cZ a0 a1 a0_open a0_clash a0_weight a0_common a0_gain a0_sum a1_near a1_tail a1_head v0_rest v0_versionSeen v0_restSeen w0_open v1_nodes v1_arcCount v1_version)) (va_Qi (fun (r : Int32) (_ : Unit) => ret = r) (fun _ t => PoS (dC, dI) (tyL cI cJ cG cZ) (wd_LC_openTo cI cJ cG cZ a0 a1 a0_open a0_clash a0_weight a0_common a0_gain a0_sum a1_near a1_tail a1_head v0_rest v0_versionSeen v0_restSeen w0_open v1_nodes v1_arcCount v1_version) (va_A (wd_LC_openTo cI cJ cG cZ a0 a1 a0_open a0_clash a0_weight a0_common a0_gain a0_sum a1_near a1_tail a1_head v0_rest v0_versionSeen v0_restSeen w0_open v1_nodes v1_arcCount v1_version) sz) t) (va_A (wd_LC_openTo cI cJ cG cZ a0 a1 a0_open a0_clash a0_weight a0_common a0_gain a0_sum a1_near a1_tail a1_head v0_rest v0_versionSeen v0_restSeen w0_open v1_nodes v1_arcCount v1_version) sz)) 0 0 (va_A (wd_LC_openTo cI cJ cG cZ a0 a1 a0_open a0_clash a0_weight a0_common a0_gain a0_sum a1_near a1_tail a1_head v0_rest v0_versionSeen v0_restSeen w0_open v1_nodes v1_arcCount v1_version) sz) := by
  refine Met.ofW (cc := prog_3_method_6_code) (maxL := 5) (ret := (some .int)) (by decide) rfl ?_
  intro p e s m args below meth c s₁ B hml hv
  obtain ⟨rfl, hsz, hP, hK, hD0, hNw⟩ := hv
  have hx := B.exec
  have hb := B.bytes
  have hr := B.returns
  have htt : ∀ w ∈ gtbl, w.before _ s = true := fun w h => atoms_spec (ws := us_LC_openTo) B.pre w (List.mem_cons_of_mem _ h)
  have hown : s.vm.findClass R_LC = some m.cls := findClass_of_methodNamed B.named
  have hlocks := B.notSynchronized
  subst hsz
  have hD := hD0.self (sz := s.heap.size)
  generalize hAe : va_A (wd_LC_openTo cI cJ cG cZ a0 a1 a0_open a0_clash a0_weight a0_common a0_gain a0_sum a1_near a1_tail a1_head v0_rest v0_versionSeen v0_restSeen w0_open v1_nodes v1_arcCount v1_version) s.heap.size = A at hD ⊢
  have hA : ∀ q : Nat, s.heap.size ≤ q → A q := fun q h => by rw [← hAe]; exact Or.inr h
  clear hAe hD0
  have hS : va_S A s.heap s.heap [] := va_S.rf
  have hl := lv_entry ([.ref a0, .ref a1, .int p2]) (n := 5) (Nat.le_of_ble_eq_true rfl)
  rw [lg_entry_eq]
  generalize (lg_sl ([.ref a0, .ref a1, .int p2]) ++ List.replicate (5 - (lg_sl ([.ref a0, .ref a1, .int p2])).length) Slot.unset).toArray = ls at hl ⊢
  have hl : lv_has ls 5 [(0, .ref a0), (1, .ref a1), (2, .int p2)] := hl
  generalize hH : s.heap = H at hP ⊢
  have hS : va_S A s.heap H [] := hH ▸ hS
  generalize hLo : ([] : List Loc) = locs at hS ⊢
  clear hH hLo
  unfold m_LC_openTo at hm
  refine lv_iconst (v := 0) hx hb d_LC_openTo_0 (by decide) ?_
  refine lv_istore_n (lv' := [(3, .int 0), (0, .ref a0), (1, .ref a1), (2, .int p2)]) hx hb d_LC_openTo_1 rfl hl (by decide) rfl (fun ls hl => ?_)
  refine lv_iconst (v := 0) hx hb d_LC_openTo_2 (by decide) ?_
  refine lv_istore (lv' := [(4, .int 0), (3, .int 0), (0, .ref a0), (1, .ref a1), (2, .int p2)]) hx hb d_LC_openTo_3 hl (by decide) rfl (fun ls hl => ?_)
  refine gL_e (P := (fun (z_5 : Int32 × Int32) => ∀ (x3_1 : Int32), ∀ (x4_2 : Int32), z_5 = (x3_1, x4_2) → ∀ (ls : Array Slot) (H : Heap) (locs : List Loc), lv_has ls 5 [(0, .ref a0), (1, .ref a1), (2, .int p2), (3, .int x3_1), (4, .int x4_2)] → va_P (dC, dI) vwCl (wd_LC_openTo cI cJ cG cZ a0 a1 a0_open a0_clash a0_weight a0_common a0_gain a0_sum a1_near a1_tail a1_head v0_rest v0_versionSeen v0_restSeen w0_open v1_nodes v1_arcCount v1_version) H → va_D A (wd_LC_openTo cI cJ cG cZ a0 a1 a0_open a0_clash a0_weight a0_common a0_gain a0_sum a1_near a1_tail a1_head v0_rest v0_versionSeen v0_restSeen w0_open v1_nodes v1_arcCount v1_version) → va_S A s.heap H locs → W p l e (headSpec us_LC_openTo rm_LC_openTo).room s m ([.ref a0, .ref a1, .int p2] : List Value).toArray below meth c H locs 0 0 (MQ below (va_Qi (fun (r : Int32) (_ : Unit) => ret = r) (fun _ t => PoS (dC, dI) (tyL cI cJ cG cZ) (wd_LC_openTo cI cJ cG cZ a0 a1 a0_open a0_clash a0_weight a0_common a0_gain a0_sum a1_near a1_tail a1_head v0_rest v0_versionSeen v0_restSeen w0_open v1_nodes v1_arcCount v1_version) A t) A) ([.ref a0, .ref a1, .int p2] : List Value).toArray s 0 0 A) (F0 m 5 ls []))) hm (fun k_5 z_5 ih_5 hm => ?_) _ _ rfl ls H locs (lv_sub hl [2, 3, 4, 1, 0] rfl) hP hD hS
  intro x3_1 x4_2 hz ls H locs hl hP hD hS
  subst hz
  dsimp only at hm
  refine lv_iload hx hb d_LC_openTo_5 (lv_at hl 4 rfl) ?_
  refine lv_aload_n hx hb d_LC_openTo_7 rfl (lv_at hl 1 rfl) ?_
  refine va_get (D := (dC, dI)) (ci := 1) (v := .int v1_nodes) (C := R_Net) (T := T_Net) (N := 6) hx hb htt hin_Net hown hK hP 2 rfl rfl 3 (by decide) (htt _ kt_48) (fun _ h9 => h9) rfl d_LC_openTo_8 ?_
  refine lv_icmp_ge (tgt := 39) hx hb d_LC_openTo_11 (by decide) (fun c_3 => ?_) (fun c_3 => ?_)
  · have hm := ite_t c_3 hm
    refine lv_iload_n hx hb d_LC_openTo_39 rfl (lv_at hl 3 rfl) ?_
    cases hm
    exact W.iret hx hb hr (fun t ht hW => ⟨⟨_, (), rfl, rfl, by rw [ht]; exact hP, va_K.moved hW.alike hK, hD⟩, hS.F ht⟩) hS.2.2 d_LC_openTo_40
  · have hm := ite_f c_3 hm
    refine lv_iload_n hx hb d_LC_openTo_14 rfl (lv_at hl 2 rfl) ?_
    refine lv_iload hx hb d_LC_openTo_15 (lv_at hl 4 rfl) ?_
    refine lv_ishr hx hb d_LC_openTo_17 ?_
    refine lv_iconst (v := 1) hx hb d_LC_openTo_18 (by decide) ?_
    refine lv_iand hx hb d_LC_openTo_19 ?_
    refine lv_if_eq (tgt := 33) hx hb d_LC_openTo_20 (by decide) (fun c_4 => ?_) (fun c_4 => ?_)
    · have hm := ite_t c_4 hm
      obtain ⟨x4_5, ex4_5⟩ : ∃ y : Int32, y = x4_2 + 1 := ⟨_, rfl⟩
      have hm := gB_at ex4_5 hm
      refine lv_iinc (v := x4_5) (lv' := [(4, .int x4_5), (0, .ref a0), (1, .ref a1), (2, .int p2), (3, .int x3_1)]) hx hb d_LC_openTo_33 hl (k := 4) rfl (by rw [ex4_5]; rfl) (by decide) rfl (fun ls hl => ?_)
      refine lv_goto (tgt := 5) hx hb d_LC_openTo_36 (by decide) ?_
      exact ih_5 _ hm _ _ rfl ls H locs (lv_sub hl [1, 2, 3, 4, 0] rfl) hP hD hS
    · have hm := ite_f c_4 hm
      refine lv_iload_n hx hb d_LC_openTo_23 rfl (lv_at hl 3 rfl) ?_
      refine lv_aload_n hx hb d_LC_openTo_24 rfl (lv_at hl 0 rfl) ?_
      refine va_get (D := (dC, dI)) (ci := 4) (v := .ref a0_open) (C := R_LC) (T := T_LC) (N := 9) hx hb htt hin_LC hown hK hP 0 rfl rfl 0 (by decide) (htt _ kt_146) (fun _ h9 => h9) rfl d_LC_openTo_25 ?_
      refine lv_iload hx hb d_LC_openTo_28 (lv_at hl 4 rfl) ?_
      obtain ⟨hi_6, hm⟩ := gC_e hm
      refine va_iald hx hb hK hP 1 0 rfl rfl (inb_vp hi_6) d_LC_openTo_30 ?_
      refine lv_ior hx hb d_LC_openTo_31 ?_
      refine lv_topi (fun x3_7 ex3_7 => ?_)
      have hm := gB_at ex3_7 hm
      refine lv_istore_n (lv' := [(3, .int x3_7), (0, .ref a0), (1, .ref a1), (2, .int p2), (4, .int x4_2)]) hx hb d_LC_openTo_32 rfl hl (by decide) rfl (fun ls hl => ?_)
      obtain ⟨x4_8, ex4_8⟩ : ∃ y : Int32, y = x4_2 + 1 := ⟨_, rfl⟩
      have hm := gB_at ex4_8 hm
      refine lv_iinc (v := x4_8) (lv' := [(4, .int x4_8), (3, .int x3_7), (0, .ref a0), (1, .ref a1), (2, .int p2)]) hx hb d_LC_openTo_33 hl (k := 4) rfl (by rw [ex4_8]; rfl) (by decide) rfl (fun ls hl => ?_)
      refine lv_goto (tgt := 5) hx hb d_LC_openTo_36 (by decide) ?_
      exact ih_5 _ hm _ _ rfl ls H locs (lv_sub hl [2, 3, 4, 1, 0] rfl) hP hD hS
theorem d_LC_takeSimple_0 : decode prog_3_method_4_code 0 = .ok (.lconst 1, 1) := by decide +kernel
theorem d_LC_takeSimple_1 : decode prog_3_method_4_code 1 = .ok (.lstore_n 2, 1) := by decide +kernel
theorem d_LC_takeSimple_2 : decode prog_3_method_4_code 2 = .ok (.iconst 1, 1) := by decide +kernel
theorem d_LC_takeSimple_3 : decode prog_3_method_4_code 3 = .ok (.istore 4, 2) := by decide +kernel
theorem d_LC_takeSimple_5 : decode prog_3_method_4_code 5 = .ok (.iconst 0, 1) := by decide +kernel
theorem d_LC_takeSimple_6 : decode prog_3_method_4_code 6 = .ok (.istore 5, 2) := by decide +kernel
theorem d_LC_takeSimple_8 : decode prog_3_method_4_code 8 = .ok (.iload 5, 2) := by decide +kernel
theorem d_LC_takeSimple_10 : decode prog_3_method_4_code 10 = .ok (.bipush 12, 2) := by decide +kernel
theorem d_LC_takeSimple_12 : decode prog_3_method_4_code 12 = .ok (.if_icmp .ge 176, 3) := by decide +kernel
theorem d_LC_takeSimple_15 : decode prog_3_method_4_code 15 = .ok (.iload 4, 2) := by decide +kernel
theorem d_LC_takeSimple_17 : decode prog_3_method_4_code 17 = .ok (.ifCond .eq 171, 3) := by decide +kernel
theorem d_LC_takeSimple_20 : decode prog_3_method_4_code 20 = .ok (.iconst 0, 1) := by decide +kernel
theorem d_LC_takeSimple_21 : decode prog_3_method_4_code 21 = .ok (.istore 4, 2) := by decide +kernel
theorem d_LC_takeSimple_23 : decode prog_3_method_4_code 23 = .ok (.iconst 0, 1) := by decide +kernel
theorem d_LC_takeSimple_24 : decode prog_3_method_4_code 24 = .ok (.istore 6, 2) := by decide +kernel
theorem d_LC_takeSimple_26 : decode prog_3_method_4_code 26 = .ok (.iload 6, 2) := by decide +kernel
theorem d_LC_takeSimple_28 : decode prog_3_method_4_code 28 = .ok (.aload_n 1, 1) := by decide +kernel
theorem d_LC_takeSimple_29 : decode prog_3_method_4_code 29 = .ok (.getfield 35, 3) := by decide +kernel
theorem d_LC_takeSimple_32 : decode prog_3_method_4_code 32 = .ok (.if_icmp .ge 150, 3) := by decide +kernel
theorem d_LC_takeSimple_35 : decode prog_3_method_4_code 35 = .ok (.aload_n 1, 1) := by decide +kernel
theorem d_LC_takeSimple_36 : decode prog_3_method_4_code 36 = .ok (.getfield 79, 3) := by decide +kernel
theorem d_LC_takeSimple_39 : decode prog_3_method_4_code 39 = .ok (.iload 6, 2) := by decide +kernel
theorem d_LC_takeSimple_41 : decode prog_3_method_4_code 41 = .ok (.iaload, 1) := by decide +kernel
theorem d_LC_takeSimple_42 : decode prog_3_method_4_code 42 = .ok (.aload_n 0, 1) := by decide +kernel
theorem d_LC_takeSimple_43 : decode prog_3_method_4_code 43 = .ok (.getfield 50, 3) := by decide +kernel
theorem d_LC_takeSimple_46 : decode prog_3_method_4_code 46 = .ok (.iand, 1) := by decide +kernel
theorem d_LC_takeSimple_47 : decode prog_3_method_4_code 47 = .ok (.istore 7, 2) := by decide +kernel
theorem d_LC_takeSimple_49 : decode prog_3_method_4_code 49 = .ok (.aload_n 0, 1) := by decide +kernel
theorem d_LC_takeSimple_50 : decode prog_3_method_4_code 50 = .ok (.getfield 50, 3) := by decide +kernel
theorem d_LC_takeSimple_53 : decode prog_3_method_4_code 53 = .ok (.iload 6, 2) := by decide +kernel
theorem d_LC_takeSimple_55 : decode prog_3_method_4_code 55 = .ok (.ishr, 1) := by decide +kernel
theorem d_LC_takeSimple_56 : decode prog_3_method_4_code 56 = .ok (.iconst 1, 1) := by decide +kernel
theorem d_LC_takeSimple_57 : decode prog_3_method_4_code 57 = .ok (.iand, 1) := by decide +kernel
theorem d_LC_takeSimple_58 : decode prog_3_method_4_code 58 = .ok (.ifCond .ne 6, 3) := by decide +kernel
theorem d_LC_takeSimple_61 : decode prog_3_method_4_code 61 = .ok (.goto 115, 3) := by decide +kernel
theorem d_LC_takeSimple_64 : decode prog_3_method_4_code 64 = .ok (.aload_n 0, 1) := by decide +kernel
theorem d_LC_takeSimple_65 : decode prog_3_method_4_code 65 = .ok (.getfield 9, 3) := by decide +kernel
theorem d_LC_takeSimple_68 : decode prog_3_method_4_code 68 = .ok (.iload 6, 2) := by decide +kernel
theorem d_LC_takeSimple_70 : decode prog_3_method_4_code 70 = .ok (.iaload, 1) := by decide +kernel
theorem d_LC_takeSimple_71 : decode prog_3_method_4_code 71 = .ok (.invokestatic 82, 3) := by decide +kernel
theorem d_LC_takeSimple_74 : decode prog_3_method_4_code 74 = .ok (.iconst 1, 1) := by decide +kernel
theorem d_LC_takeSimple_75 : decode prog_3_method_4_code 75 = .ok (.if_icmp .gt 34, 3) := by decide +kernel
theorem d_LC_takeSimple_78 : decode prog_3_method_4_code 78 = .ok (.lload_n 2, 1) := by decide +kernel
theorem d_LC_takeSimple_79 : decode prog_3_method_4_code 79 = .ok (.aload_n 0, 1) := by decide +kernel
theorem d_LC_takeSimple_80 : decode prog_3_method_4_code 80 = .ok (.getfield 9, 3) := by decide +kernel
theorem d_LC_takeSimple_83 : decode prog_3_method_4_code 83 = .ok (.iload 6, 2) := by decide +kernel
theorem d_LC_takeSimple_85 : decode prog_3_method_4_code 85 = .ok (.iaload, 1) := by decide +kernel
theorem d_LC_takeSimple_86 : decode prog_3_method_4_code 86 = .ok (.invokestatic 82, 3) := by decide +kernel
theorem d_LC_takeSimple_89 : decode prog_3_method_4_code 89 = .ok (.i2l, 1) := by decide +kernel
theorem d_LC_takeSimple_90 : decode prog_3_method_4_code 90 = .ok (.lmul, 1) := by decide +kernel
theorem d_LC_takeSimple_91 : decode prog_3_method_4_code 91 = .ok (.lstore_n 2, 1) := by decide +kernel
theorem d_LC_takeSimple_92 : decode prog_3_method_4_code 92 = .ok (.aload_n 0, 1) := by decide +kernel
theorem d_LC_takeSimple_93 : decode prog_3_method_4_code 93 = .ok (.aload_n 1, 1) := by decide +kernel
theorem d_LC_takeSimple_94 : decode prog_3_method_4_code 94 = .ok (.iload 7, 2) := by decide +kernel
theorem d_LC_takeSimple_96 : decode prog_3_method_4_code 96 = .ok (.aload_n 0, 1) := by decide +kernel
theorem d_LC_takeSimple_97 : decode prog_3_method_4_code 97 = .ok (.getfield 9, 3) := by decide +kernel
theorem d_LC_takeSimple_100 : decode prog_3_method_4_code 100 = .ok (.iload 6, 2) := by decide +kernel
theorem d_LC_takeSimple_102 : decode prog_3_method_4_code 102 = .ok (.iaload, 1) := by decide +kernel
theorem d_LC_takeSimple_103 : decode prog_3_method_4_code 103 = .ok (.invokevirtual 88, 3) := by decide +kernel
theorem d_LC_takeSimple_106 : decode prog_3_method_4_code 106 = .ok (.goto 52, 3) := by decide +kernel
theorem d_LC_takeSimple_109 : decode prog_3_method_4_code 109 = .ok (.aload_n 1, 1) := by decide +kernel
theorem d_LC_takeSimple_110 : decode prog_3_method_4_code 110 = .ok (.iload 7, 2) := by decide +kernel
theorem d_LC_takeSimple_112 : decode prog_3_method_4_code 112 = .ok (.invokevirtual 92, 3) := by decide +kernel
theorem d_LC_takeSimple_115 : decode prog_3_method_4_code 115 = .ok (.ifCond .eq 61, 3) := by decide +kernel
theorem d_LC_takeSimple_118 : decode prog_3_method_4_code 118 = .ok (.aload_n 0, 1) := by decide +kernel
theorem d_LC_takeSimple_119 : decode prog_3_method_4_code 119 = .ok (.aload_n 1, 1) := by decide +kernel
theorem d_LC_takeSimple_120 : decode prog_3_method_4_code 120 = .ok (.iload 7, 2) := by decide +kernel
theorem d_LC_takeSimple_122 : decode prog_3_method_4_code 122 = .ok (.invokevirtual 96, 3) := by decide +kernel
theorem d_LC_takeSimple_125 : decode prog_3_method_4_code 125 = .ok (.aload_n 0, 1) := by decide +kernel
theorem d_LC_takeSimple_126 : decode prog_3_method_4_code 126 = .ok (.getfield 9, 3) := by decide +kernel
theorem d_LC_takeSimple_129 : decode prog_3_method_4_code 129 = .ok (.iload 6, 2) := by decide +kernel
theorem d_LC_takeSimple_131 : decode prog_3_method_4_code 131 = .ok (.iaload, 1) := by decide +kernel
theorem d_LC_takeSimple_132 : decode prog_3_method_4_code 132 = .ok (.iconst (-1), 1) := by decide +kernel
theorem d_LC_takeSimple_133 : decode prog_3_method_4_code 133 = .ok (.ixor, 1) := by decide +kernel
theorem d_LC_takeSimple_134 : decode prog_3_method_4_code 134 = .ok (.iand, 1) := by decide +kernel
theorem d_LC_takeSimple_135 : decode prog_3_method_4_code 135 = .ok (.ifCond .ne 41, 3) := by decide +kernel
theorem d_LC_takeSimple_138 : decode prog_3_method_4_code 138 = .ok (.lload_n 2, 1) := by decide +kernel
theorem d_LC_takeSimple_139 : decode prog_3_method_4_code 139 = .ok (.aload_n 0, 1) := by decide +kernel
theorem d_LC_takeSimple_140 : decode prog_3_method_4_code 140 = .ok (.getfield 9, 3) := by decide +kernel
theorem d_LC_takeSimple_143 : decode prog_3_method_4_code 143 = .ok (.iload 6, 2) := by decide +kernel
theorem d_LC_takeSimple_145 : decode prog_3_method_4_code 145 = .ok (.iaload, 1) := by decide +kernel
theorem d_LC_takeSimple_146 : decode prog_3_method_4_code 146 = .ok (.invokestatic 82, 3) := by decide +kernel
theorem d_LC_takeSimple_149 : decode prog_3_method_4_code 149 = .ok (.iload 7, 2) := by decide +kernel
theorem d_LC_takeSimple_151 : decode prog_3_method_4_code 151 = .ok (.invokestatic 82, 3) := by decide +kernel
theorem d_LC_takeSimple_154 : decode prog_3_method_4_code 154 = .ok (.isub, 1) := by decide +kernel
theorem d_LC_takeSimple_155 : decode prog_3_method_4_code 155 = .ok (.i2l, 1) := by decide +kernel
theorem d_LC_takeSimple_156 : decode prog_3_method_4_code 156 = .ok (.lmul, 1) := by decide +kernel
theorem d_LC_takeSimple_157 : decode prog_3_method_4_code 157 = .ok (.lstore_n 2, 1) := by decide +kernel
theorem d_LC_takeSimple_158 : decode prog_3_method_4_code 158 = .ok (.aload_n 0, 1) := by decide +kernel
theorem d_LC_takeSimple_159 : decode prog_3_method_4_code 159 = .ok (.dup, 1) := by decide +kernel
theorem d_LC_takeSimple_160 : decode prog_3_method_4_code 160 = .ok (.getfield 50, 3) := by decide +kernel
theorem d_LC_takeSimple_163 : decode prog_3_method_4_code 163 = .ok (.iconst 1, 1) := by decide +kernel
theorem d_LC_takeSimple_164 : decode prog_3_method_4_code 164 = .ok (.iload 6, 2) := by decide +kernel
theorem d_LC_takeSimple_166 : decode prog_3_method_4_code 166 = .ok (.ishl, 1) := by decide +kernel
theorem d_LC_takeSimple_167 : decode prog_3_method_4_code 167 = .ok (.iconst (-1), 1) := by decide +kernel
theorem d_LC_takeSimple_168 : decode prog_3_method_4_code 168 = .ok (.ixor, 1) := by decide +kernel
theorem d_LC_takeSimple_169 : decode prog_3_method_4_code 169 = .ok (.iand, 1) := by decide +kernel
theorem d_LC_takeSimple_170 : decode prog_3_method_4_code 170 = .ok (.putfield 50, 3) := by decide +kernel
theorem d_LC_takeSimple_173 : decode prog_3_method_4_code 173 = .ok (.iconst 1, 1) := by decide +kernel
theorem d_LC_takeSimple_174 : decode prog_3_method_4_code 174 = .ok (.istore 4, 2) := by decide +kernel
theorem d_LC_takeSimple_176 : decode prog_3_method_4_code 176 = .ok (.iinc 6 1, 3) := by decide +kernel
theorem d_LC_takeSimple_179 : decode prog_3_method_4_code 179 = .ok (.goto (-153), 3) := by decide +kernel
theorem d_LC_takeSimple_182 : decode prog_3_method_4_code 182 = .ok (.iinc 5 1, 3) := by decide +kernel
theorem d_LC_takeSimple_185 : decode prog_3_method_4_code 185 = .ok (.goto (-177), 3) := by decide +kernel
theorem d_LC_takeSimple_188 : decode prog_3_method_4_code 188 = .ok (.lload_n 2, 1) := by decide +kernel
theorem d_LC_takeSimple_189 : decode prog_3_method_4_code 189 = .ok (.lreturn, 1) := by decide +kernel
abbrev wd_LC_takeSimple (cI cJ cG cZ : ClassId) (a0 a1 a0_open a0_clash a0_weight a0_common a0_gain a0_sum a1_near a1_tail a1_head : Nat) (v0_rest : Int32) (v0_versionSeen : Int32) (v0_restSeen : Int32) (w0_open : Nat → Int32) (v1_nodes : Int32) (v1_arcCount : Int32) (v1_version : Int32) (w1_near : Nat → Int32) : va_W := [(a0, .inr (4, [.ref a0_open, .ref a0_clash, .ref a0_weight, .ref a0_common, .ref a0_gain, .ref a0_sum, .int v0_rest, .int v0_versionSeen, .int v0_restSeen])), (a0_open, .inl (cI, 12, .inl w0_open)), (a1, .inr (1, [.ref a1_near, .ref a1_tail, .ref a1_head, .int v1_nodes, .int v1_arcCount, .int v1_version])), (a1_near, .inl (cI, 12, .inl w1_near))]
abbrev us_LC_takeSimple : List Cond := .code y_LC_takeSimple prog_3_method_4_code 8 (some .long) :: gtbl
abbrev rm_LC_takeSimple : Room := { frames := 1, cells := 0, slots := 0, locals := 24 }
def m_LC_takeSimple (F : Nat) (v0_rest : Int32) (v0_versionSeen : Int32) (v0_restSeen : Int32) (w0_open : Nat → Int32) (v1_nodes : Int32) (v1_arcCount : Int32) (v1_version : Int32) (w1_near : Nat → Int32) : Option (Int64 × Int32 × (Nat → Int32)) :=
  gL (fun (k_8 : (Int64 × Int32 × Int32 × Int32 × (Nat → Int32)) → Option (Int64 × Int32 × (Nat → Int32))) (z_8 : Int64 × Int32 × Int32 × Int32 × (Nat → Int32)) => match z_8 with
  | (x2_1, x4_2, x5_3, v0_rest_4, w0_open_5) =>
  if (12 : Int32) ≤ x5_3 then (
    some (x2_1, v0_rest_4, w0_open_5)
  ) else (
    if x4_2 = 0 then (
      some (x2_1, v0_rest_4, w0_open_5)
    ) else (
      gL (fun (k_26 : (Int64 × Int32 × Int32 × Int32 × (Nat → Int32)) → Option (Int64 × Int32 × (Nat → Int32))) (z_26 : Int64 × Int32 × Int32 × Int32 × (Nat → Int32)) => match z_26 with
      | (x2_8, x4_9, x6_10, v0_rest_11, w0_open_12) =>
      if v1_nodes ≤ x6_10 then (
        gB (x5_3 + 1) (fun x5_14 =>
        k_8 (x2_8, x4_9, x5_14, v0_rest_11, w0_open_12))
      ) else (
        gC (inb x6_10 12) (
        gB ((w1_near x6_10.toNatClampNeg) &&& v0_rest_11) (fun x7_16 =>
        if ((v0_rest_11 >>> (x6_10 &&& 31)) &&& 1) = 0 then (
          gB (x6_10 + 1) (fun x6_43 =>
          k_26 (x2_8, x4_9, x6_43, v0_rest_11, w0_open_12))
        ) else (
          gC (inb x6_10 12) (
          gB (α := Int64 → (Nat → Int32) → Option (Int64 × Int32 × (Nat → Int32))) (fun x2_19 w0_open_20 =>
            gB (v0_rest_11 &&& (((1 : Int32) <<< (x6_10 &&& 31)) ^^^ (-1))) (fun f_21 =>
            gB (x6_10 + 1) (fun x6_22 =>
            k_26 (x2_19, 1, x6_22, f_21, w0_open_20)))
          ) (fun J_158 =>
          if (1 : Int32) < (bitc (w0_open_12 x6_10.toNatClampNeg)) then (
            gM (m_Net_allNear F v1_nodes v1_arcCount v1_version w1_near x7_16) (fun q_24 =>
            if q_24 = 0 then (
              gB (x6_10 + 1) (fun x6_29 =>
              k_26 (x2_8, x4_9, x6_29, v0_rest_11, w0_open_12))
            ) else (
              gM (m_LC_openTo F v0_rest_11 v0_versionSeen v0_restSeen w0_open_12 v1_nodes v1_arcCount v1_version x7_16) (fun q_30 =>
              gC (inb x6_10 12) (
              if (q_30 &&& ((w0_open_12 x6_10.toNatClampNeg) ^^^ (-1))) = 0 then (
                gC (inb x6_10 12) (
                gB (x2_8 * (((bitc (w0_open_12 x6_10.toNatClampNeg)) - (bitc x7_16)).toInt64)) (fun x2_37 =>
                J_158 x2_37 w0_open_12))
              ) else (
                gB (x6_10 + 1) (fun x6_35 =>
                k_26 (x2_8, x4_9, x6_35, v0_rest_11, w0_open_12))
              )))
            ))
          ) else (
            gC (inb x6_10 12) (
            gB (x2_8 * ((bitc (w0_open_12 x6_10.toNatClampNeg)).toInt64)) (fun x2_39 =>
            gC (inb x6_10 12) (
            gM (m_LC_takeColourFrom F v0_rest_11 v0_versionSeen v0_restSeen w0_open_12 v1_nodes v1_arcCount v1_version x7_16 (w0_open_12 x6_10.toNatClampNeg)) (fun w0_open_41 =>
            J_158 x2_39 w0_open_41))))
          )
          ))
        )))
      )
      ) F (x2_1, 0, 0, v0_rest_4, w0_open_5)
    )
  )
  ) F (1, 1, 0, v0_rest, w0_open)
set_option maxHeartbeats 4000000 in
set_option maxRecDepth 100000 in
theorem c_LC_takeSimple (l : Launch) (dC : Nat → ClassId) (dI : Nat → Nat → Nat) (cI cJ cG cZ : ClassId) (a0 a1 a0_open a0_clash a0_weight a0_common a0_gain a0_sum a1_near a1_tail a1_head : Nat) (sz : Nat) (F : Nat) (v0_rest : Int32) (v0_versionSeen : Int32) (v0_restSeen : Int32) (w0_open : Nat → Int32) (v1_nodes : Int32) (v1_arcCount : Int32) (v1_version : Int32) (w1_near : Nat → Int32) (ret : Int64) (o_v0_rest : Int32) (o_w0_open : Nat → Int32) (hm : m_LC_takeSimple F v0_rest v0_versionSeen v0_restSeen w0_open v1_nodes v1_arcCount v1_version w1_near = some (ret, o_v0_rest, o_w0_open)) : Met l y_LC_takeSimple us_LC_takeSimple rm_LC_takeSimple (PcS (dC, dI) (tyL cI cJ cG cZ) [.ref a0, .ref a1] sz (wd_LC_takeSimple cI cJ cG cZ a0 a1 a0_open a0_clash a0_weight a0_common a0_gain a0_sum a1_near a1_tail a1_head v0_rest v0_versionSeen v0_restSeen w0_open v1_nodes v1_arcCount v1_version w1_near)) (va_Ql (fun (r : Int64) (_ : Unit) => ret = r) (fun _ t => PoS (dC, dI) (tyL cI cJ cG cZ) (wd_LC_takeSimple cI cJ cG cZ a0 a1 a0_open a0_clash a0_weight a0_common a0_gain a0_sum a1_near a1_tail a1_head o_v0_rest v0_versionSeen v0_restSeen o_w0_open v1_nodes v1_arcCount v1_version w1_near) (va_A (wd_LC_takeSimple cI cJ cG cZ a0 a1 a0_open a0_clash a0_weight a0_common a0_gain a0_sum a1_near a1_tail a1_head v0_rest v0_versionSeen v0_restSeen w0_open v1_nodes v1_arcCount v1_version w1_near) sz) t) (va_A (wd_LC_takeSimple cI cJ cG cZ a0 a1 a0_open a0_clash a0_weight a0_common a0_gain a0_sum a1_near a1_tail a1_head v0_rest v0_versionSeen v0_restSeen w0_open v1_nodes v1_arcCount v1_version w1_near) sz)) 0 0 (va_A (wd_LC_takeSimple cI cJ cG cZ a0 a1 a0_open a0_clash a0_weight a0_common a0_gain a0_sum a1_near a1_tail a1_head v0_rest v0_versionSeen v0_restSeen w0_open v1_nodes v1_arcCount v1_version w1_near) sz) := by
  refine Met.ofW (cc := prog_3_method_4_code) (maxL := 8) (ret := (some .long)) (by decide) rfl ?_
  intro p e s m args below meth c s₁ B hml hv
  obtain ⟨rfl, hsz, hP, hK, hD0, hNw⟩ := hv
  have hx := B.exec
  have hb := B.bytes
  have hr := B.returns
  have htt : ∀ w ∈ gtbl, w.before _ s = true := fun w h => atoms_spec (ws := us_LC_takeSimple) B.pre w (List.mem_cons_of_mem _ h)
  have hown : s.vm.findClass R_LC = some m.cls := findClass_of_methodNamed B.named
  have hlocks := B.notSynchronized
  subst hsz
  have hD := hD0.self (sz := s.heap.size)
  generalize hAe : va_A (wd_LC_takeSimple cI cJ cG cZ a0 a1 a0_open a0_clash a0_weight a0_common a0_gain a0_sum a1_near a1_tail a1_head v0_rest v0_versionSeen v0_restSeen w0_open v1_nodes v1_arcCount v1_version w1_near) s.heap.size = A at hD ⊢
  have hA : ∀ q : Nat, s.heap.size ≤ q → A q := fun q h => by rw [← hAe]; exact Or.inr h
  clear hAe hD0
  have hS : va_S A s.heap s.heap [] := va_S.rf
  have hl := lv_entry ([.ref a0, .ref a1]) (n := 8) (Nat.le_of_ble_eq_true rfl)
  rw [lg_entry_eq]
  generalize (lg_sl ([.ref a0, .ref a1]) ++ List.replicate (8 - (lg_sl ([.ref a0, .ref a1])).length) Slot.unset).toArray = ls at hl ⊢
  have hl : lv_has ls 8 [(0, .ref a0), (1, .ref a1)] := hl
  generalize hH : s.heap = H at hP ⊢
  have hS : va_S A s.heap H [] := hH ▸ hS
  generalize hLo : ([] : List Loc) = locs at hS ⊢
  clear hH hLo
  unfold m_LC_takeSimple at hm
  refine lv_lconst (v := 1) hx hb d_LC_takeSimple_0 (by decide) ?_
  refine lv_lstore_n (lv' := [(2, .long 1), (0, .ref a0), (1, .ref a1)]) hx hb d_LC_takeSimple_1 rfl hl (by decide) rfl (fun ls hl => ?_)
  refine lv_iconst (v := 1) hx hb d_LC_takeSimple_2 (by decide) ?_
  refine lv_istore (lv' := [(4, .int 1), (2, .long 1), (0, .ref a0), (1, .ref a1)]) hx hb d_LC_takeSimple_3 hl (by decide) rfl (fun ls hl => ?_)
  refine lv_iconst (v := 0) hx hb d_LC_takeSimple_5 (by decide) ?_
  refine lv_istore (lv' := [(5, .int 0), (4, .int 1), (2, .long 1), (0, .ref a0), (1, .ref a1)]) hx hb d_LC_takeSimple_6 hl (by decide) rfl (fun ls hl => ?_)
  refine gL_e (P := (fun (z_8 : Int64 × Int32 × Int32 × Int32 × (Nat → Int32)) => ∀ (x2_1 : Int64), ∀ (x4_2 : Int32), ∀ (x5_3 : Int32), ∀ (v0_rest_4 : Int32), ∀ (w0_open_5 : Nat → Int32), z_8 = (x2_1, x4_2, x5_3, v0_rest_4, w0_open_5) → ∀ (ls : Array Slot) (H : Heap) (locs : List Loc), lv_has ls 8 [(0, .ref a0), (1, .ref a1), (2, .long x2_1), (4, .int x4_2), (5, .int x5_3)] → va_P (dC, dI) vwCl (wd_LC_takeSimple cI cJ cG cZ a0 a1 a0_open a0_clash a0_weight a0_common a0_gain a0_sum a1_near a1_tail a1_head v0_rest_4 v0_versionSeen v0_restSeen w0_open_5 v1_nodes v1_arcCount v1_version w1_near) H → va_D A (wd_LC_takeSimple cI cJ cG cZ a0 a1 a0_open a0_clash a0_weight a0_common a0_gain a0_sum a1_near a1_tail a1_head v0_rest_4 v0_versionSeen v0_restSeen w0_open_5 v1_nodes v1_arcCount v1_version w1_near) → va_S A s.heap H locs → W p l e (headSpec us_LC_takeSimple rm_LC_takeSimple).room s m ([.ref a0, .ref a1] : List Value).toArray below meth c H locs 0 0 (MQ below (va_Ql (fun (r : Int64) (_ : Unit) => ret = r) (fun _ t => PoS (dC, dI) (tyL cI cJ cG cZ) (wd_LC_takeSimple cI cJ cG cZ a0 a1 a0_open a0_clash a0_weight a0_common a0_gain a0_sum a1_near a1_tail a1_head o_v0_rest v0_versionSeen v0_restSeen o_w0_open v1_nodes v1_arcCount v1_version w1_near) A t) A) ([.ref a0, .ref a1] : List Value).toArray s 0 0 A) (F0 m 8 ls []))) hm (fun k_8 z_8 ih_8 hm => ?_) _ _ _ _ _ rfl ls H locs (lv_sub hl [3, 4, 2, 1, 0] rfl) hP hD hS
  intro x2_1 x4_2 x5_3 v0_rest_4 w0_open_5 hz ls H locs hl hP hD hS
  subst hz
  dsimp only at hm
  refine lv_iload hx hb d_LC_takeSimple_8 (lv_at hl 4 rfl) ?_
  refine lv_bipush (v := 12) hx hb d_LC_takeSimple_10 (by decide) ?_
  refine lv_icmp_ge (tgt := 188) hx hb d_LC_takeSimple_12 (by decide) (fun c_6 => ?_) (fun c_6 => ?_)
  · have hm := ite_t c_6 hm
    refine lv_lload_n hx hb d_LC_takeSimple_188 rfl (lv_at hl 2 rfl) ?_
    cases hm
    exact W.lret hx hb hr (fun t ht hW => ⟨⟨_, (), rfl, rfl, by rw [ht]; exact hP, va_K.moved hW.alike hK, hD⟩, hS.F ht⟩) hS.2.2 d_LC_takeSimple_189
  · have hm := ite_f c_6 hm
    refine lv_iload hx hb d_LC_takeSimple_15 (lv_at hl 3 rfl) ?_
    refine lv_if_eq (tgt := 188) hx hb d_LC_takeSimple_17 (by decide) (fun c_7 => ?_) (fun c_7 => ?_)
    · have hm := ite_t c_7 hm
      refine lv_lload_n hx hb d_LC_takeSimple_188 rfl (lv_at hl 2 rfl) ?_
      cases hm
      exact W.lret hx hb hr (fun t ht hW => ⟨⟨_, (), rfl, rfl, by rw [ht]; exact hP, va_K.moved hW.alike hK, hD⟩, hS.F ht⟩) hS.2.2 d_LC_takeSimple_189
    · have hm := ite_f c_7 hm
      refine lv_iconst (v := 0) hx hb d_LC_takeSimple_20 (by decide) ?_
      refine lv_istore (lv' := [(4, .int 0), (0, .ref a0), (1, .ref a1), (2, .long x2_1), (5, .int x5_3)]) hx hb d_LC_takeSimple_21 hl (by decide) rfl (fun ls hl => ?_)
      refine lv_iconst (v := 0) hx hb d_LC_takeSimple_23 (by decide) ?_
      refine lv_istore (lv' := [(6, .int 0), (4, .int 0), (0, .ref a0), (1, .ref a1), (2, .long x2_1), (5, .int x5_3)]) hx hb d_LC_takeSimple_24 hl (by decide) rfl (fun ls hl => ?_)
      refine gL_e (P := (fun (z_26 : Int64 × Int32 × Int32 × Int32 × (Nat → Int32)) => ∀ (x2_8 : Int64), ∀ (x4_9 : Int32), ∀ (x6_10 : Int32), ∀ (v0_rest_11 : Int32), ∀ (w0_open_12 : Nat → Int32), z_26 = (x2_8, x4_9, x6_10, v0_rest_11, w0_open_12) → ∀ (ls : Array Slot) (H : Heap) (locs : List Loc), lv_has ls 8 [(0, .ref a0), (1, .ref a1), (2, .long x2_8), (4, .int x4_9), (5, .int x5_3), (6, .int x6_10)] → va_P (dC, dI) vwCl (wd_LC_takeSimple cI cJ cG cZ a0 a1 a0_open a0_clash a0_weight a0_common a0_gain a0_sum a1_near a1_tail a1_head v0_rest_11 v0_versionSeen v0_restSeen w0_open_12 v1_nodes v1_arcCount v1_version w1_near) H → va_D A (wd_LC_takeSimple cI cJ cG cZ a0 a1 a0_open a0_clash a0_weight a0_common a0_gain a0_sum a1_near a1_tail a1_head v0_rest_11 v0_versionSeen v0_restSeen w0_open_12 v1_nodes v1_arcCount v1_version w1_near) → va_S A s.heap H locs → W p l e (headSpec us_LC_takeSimple rm_LC_takeSimple).room s m ([.ref a0, .ref a1] : List Value).toArray below meth c H locs 0 0 (MQ below (va_Ql (fun (r : Int64) (_ : Unit) => ret = r) (fun _ t => PoS (dC, dI) (tyL cI cJ cG cZ) (wd_LC_takeSimple cI cJ cG cZ a0 a1 a0_open a0_clash a0_weight a0_common a0_gain a0_sum a1_near a1_tail a1_head o_v0_rest v0_versionSeen v0_restSeen o_w0_open v1_nodes v1_arcCount v1_version w1_near) A t) A) ([.ref a0, .ref a1] : List Value).toArray s 0 0 A) (F0 m 26 ls []))) hm (fun k_26 z_26 ih_26 hm => ?_) _ _ _ _ _ rfl ls H locs (lv_sub hl [2, 3, 4, 1, 5, 0] rfl) hP hD hS
      intro x2_8 x4_9 x6_10 v0_rest_11 w0_open_12 hz ls H locs hl hP hD hS
      subst hz
      dsimp only at hm
      refine lv_iload hx hb d_LC_takeSimple_26 (lv_at hl 5 rfl) ?_
      refine lv_aload_n hx hb d_LC_takeSimple_28 rfl (lv_at hl 1 rfl) ?_
      refine va_get (D := (dC, dI)) (ci := 1) (v := .int v1_nodes) (C := R_Net) (T := T_Net) (N := 6) hx hb htt hin_Net hown hK hP 2 rfl rfl 3 (by decide) (htt _ kt_48) (fun _ h9 => h9) rfl d_LC_takeSimple_29 ?_
      refine lv_icmp_ge (tgt := 182) hx hb d_LC_takeSimple_32 (by decide) (fun c_13 => ?_) (fun c_13 => ?_)
      · have hm := ite_t c_13 hm
        obtain ⟨x5_14, ex5_14⟩ : ∃ y : Int32, y = x5_3 + 1 := ⟨_, rfl⟩
        have hm := gB_at ex5_14 hm
        refine lv_iinc (v := x5_14) (lv' := [(5, .int x5_14), (0, .ref a0), (1, .ref a1), (2, .long x2_8), (4, .int x4_9), (6, .int x6_10)]) hx hb d_LC_takeSimple_182 hl (k := 4) rfl (by rw [ex5_14]; rfl) (by decide) rfl (fun ls hl => ?_)
        refine lv_goto (tgt := 8) hx hb d_LC_takeSimple_185 (by decide) ?_
        exact ih_8 _ hm _ _ _ _ _ rfl ls H locs (lv_sub hl [1, 2, 3, 4, 0] rfl) hP hD hS
      · have hm := ite_f c_13 hm
        refine lv_aload_n hx hb d_LC_takeSimple_35 rfl (lv_at hl 1 rfl) ?_
        refine va_get (D := (dC, dI)) (ci := 1) (v := .ref a1_near) (C := R_Net) (T := T_Net) (N := 6) hx hb htt hin_Net hown hK hP 2 rfl rfl 0 (by decide) (htt _ kt_37) (fun _ h9 => h9) rfl d_LC_takeSimple_36 ?_
        refine lv_iload hx hb d_LC_takeSimple_39 (lv_at hl 5 rfl) ?_
        obtain ⟨hi_15, hm⟩ := gC_e hm
        refine va_iald hx hb hK hP 3 0 rfl rfl (inb_vp hi_15) d_LC_takeSimple_41 ?_
        refine lv_aload_n hx hb d_LC_takeSimple_42 rfl (lv_at hl 0 rfl) ?_
        refine va_get (D := (dC, dI)) (ci := 4) (v := .int v0_rest_11) (C := R_LC) (T := T_LC) (N := 9) hx hb htt hin_LC hown hK hP 0 rfl rfl 6 (by decide) (htt _ kt_152) (fun _ h9 => h9) rfl d_LC_takeSimple_43 ?_
        refine lv_iand hx hb d_LC_takeSimple_46 ?_
        refine lv_topi (fun x7_16 ex7_16 => ?_)
        have hm := gB_at ex7_16 hm
        refine lv_istore (lv' := [(7, .int x7_16), (0, .ref a0), (1, .ref a1), (2, .long x2_8), (4, .int x4_9), (5, .int x5_3), (6, .int x6_10)]) hx hb d_LC_takeSimple_47 hl (by decide) rfl (fun ls hl => ?_)
        refine lv_aload_n hx hb d_LC_takeSimple_49 rfl (lv_at hl 1 rfl) ?_
        refine va_get (D := (dC, dI)) (ci := 4) (v := .int v0_rest_11) (C := R_LC) (T := T_LC) (N := 9) hx hb htt hin_LC hown hK hP 0 rfl rfl 6 (by decide) (htt _ kt_152) (fun _ h9 => h9) rfl d_LC_takeSimple_50 ?_
        refine lv_iload hx hb d_LC_takeSimple_53 (lv_at hl 6 rfl) ?_
        refine lv_ishr hx hb d_LC_takeSimple_55 ?_
        refine lv_iconst (v := 1) hx hb d_LC_takeSimple_56 (by decide) ?_
        refine lv_iand hx hb d_LC_takeSimple_57 ?_
        refine lv_if_ne (tgt := 64) hx hb d_LC_takeSimple_58 (by decide) (fun c_17 => ?_) (fun c_17 => ?_)
        · have hm := ite_f c_17 hm
          refine lv_aload_n hx hb d_LC_takeSimple_64 rfl (lv_at hl 1 rfl) ?_
          refine va_get (D := (dC, dI)) (ci := 4) (v := .ref a0_open) (C := R_LC) (T := T_LC) (N := 9) hx hb htt hin_LC hown hK hP 0 rfl rfl 0 (by decide) (htt _ kt_146) (fun _ h9 => h9) rfl d_LC_takeSimple_65 ?_
          refine lv_iload hx hb d_LC_takeSimple_68 (lv_at hl 6 rfl) ?_
          obtain ⟨hi_18, hm⟩ := gC_e hm
          refine va_iald hx hb hK hP 1 0 rfl rfl (inb_vp hi_18) d_LC_takeSimple_70 ?_
          refine gx_bit hx hb hml hown htt kt_463 hK hNw hP hD hS hA hl.1 (lv_room (Nat.le_of_ble_eq_true rfl)) (Nat.le_of_ble_eq_true rfl) (Nat.le_of_ble_eq_true rfl) (Nat.zero_le _) (Nat.zero_le _) d_LC_takeSimple_71 (fun H locs hP hD hS => ?_)
          refine lv_iconst (v := 1) hx hb d_LC_takeSimple_74 (by decide) ?_
          obtain ⟨J_158, hJ_158, hm⟩ := gB_x hm
          have jp_158 : ∀ (x2_19 : Int64) (w0_open_20 : Nat → Int32) (ls : Array Slot) (H : Heap) (locs : List Loc), J_158 x2_19 w0_open_20 = some (ret, o_v0_rest, o_w0_open) → lv_has ls 8 [(0, .ref a0), (1, .ref a1), (2, .long x2_19), (5, .int x5_3), (6, .int x6_10)] → va_P (dC, dI) vwCl (wd_LC_takeSimple cI cJ cG cZ a0 a1 a0_open a0_clash a0_weight a0_common a0_gain a0_sum a1_near a1_tail a1_head v0_rest_11 v0_versionSeen v0_restSeen w0_open_20 v1_nodes v1_arcCount v1_version w1_near) H → va_D A (wd_LC_takeSimple cI cJ cG cZ a0 a1 a0_open a0_clash a0_weight a0_common a0_gain a0_sum a1_near a1_tail a1_head v0_rest_11 v0_versionSeen v0_restSeen w0_open_20 v1_nodes v1_arcCount v1_version w1_near) → va_S A s.heap H locs → W p l e (headSpec us_LC_takeSimple rm_LC_takeSimple).room s m ([.ref a0, .ref a1] : List Value).toArray below meth c H locs 0 0 (MQ below (va_Ql (fun (r : Int64) (_ : Unit) => ret = r) (fun _ t => PoS (dC, dI) (tyL cI cJ cG cZ) (wd_LC_takeSimple cI cJ cG cZ a0 a1 a0_open a0_clash a0_weight a0_common a0_gain a0_sum a1_near a1_tail a1_head o_v0_rest v0_versionSeen v0_restSeen o_w0_open v1_nodes v1_arcCount v1_version w1_near) A t) A) ([.ref a0, .ref a1] : List Value).toArray s 0 0 A) (F0 m 158 ls []) := by
            intro x2_19 w0_open_20 ls H locs hm hl hP hD hS
            have hm := jn2 hJ_158 hm
            refine lv_aload_n hx hb d_LC_takeSimple_158 rfl (lv_at hl 0 rfl) ?_
            refine lv_dup hx hb d_LC_takeSimple_159 rfl ?_
            refine va_get (D := (dC, dI)) (ci := 4) (v := .int v0_rest_11) (C := R_LC) (T := T_LC) (N := 9) hx hb htt hin_LC hown hK hP 0 rfl rfl 6 (by decide) (htt _ kt_152) (fun _ h9 => h9) rfl d_LC_takeSimple_160 ?_
            refine lv_iconst (v := 1) hx hb d_LC_takeSimple_163 (by decide) ?_
            refine lv_iload hx hb d_LC_takeSimple_164 (lv_at hl 4 rfl) ?_
            refine lv_ishl hx hb d_LC_takeSimple_166 ?_
            refine lv_iconst (v := (-1)) hx hb d_LC_takeSimple_167 (by decide) ?_
            refine lv_ixor hx hb d_LC_takeSimple_168 ?_
            refine lv_iand hx hb d_LC_takeSimple_169 ?_
            refine lv_topi (fun f_21 ef_21 => ?_)
            have hm := gB_at ef_21 hm
            refine va_put (D := (dC, dI)) (ci := 4) (v := .int f_21) (ty := .int) (C := R_LC) (T := T_LC) (N := 9) hx hb htt hin_LC ty_LC tyok_LC nm_LC hown hK hP hD hS 0 rfl rfl 6 (by decide) (htt _ kt_152) (fun _ h9 => h9) rfl (by decide +kernel) rfl rfl (Nat.le_of_ble_eq_true rfl) d_LC_takeSimple_170 (fun H locs hP hD hS => ?_)
            have hP : va_P (dC, dI) vwCl (wd_LC_takeSimple cI cJ cG cZ a0 a1 a0_open a0_clash a0_weight a0_common a0_gain a0_sum a1_near a1_tail a1_head f_21 v0_versionSeen v0_restSeen w0_open_20 v1_nodes v1_arcCount v1_version w1_near) H := hP
            have hD : va_D A (wd_LC_takeSimple cI cJ cG cZ a0 a1 a0_open a0_clash a0_weight a0_common a0_gain a0_sum a1_near a1_tail a1_head f_21 v0_versionSeen v0_restSeen w0_open_20 v1_nodes v1_arcCount v1_version w1_near) := hD
            refine lv_iconst (v := 1) hx hb d_LC_takeSimple_173 (by decide) ?_
            refine lv_istore (lv' := [(4, .int 1), (0, .ref a0), (1, .ref a1), (2, .long x2_19), (5, .int x5_3), (6, .int x6_10)]) hx hb d_LC_takeSimple_174 hl (by decide) rfl (fun ls hl => ?_)
            obtain ⟨x6_22, ex6_22⟩ : ∃ y : Int32, y = x6_10 + 1 := ⟨_, rfl⟩
            have hm := gB_at ex6_22 hm
            refine lv_iinc (v := x6_22) (lv' := [(6, .int x6_22), (4, .int 1), (0, .ref a0), (1, .ref a1), (2, .long x2_19), (5, .int x5_3)]) hx hb d_LC_takeSimple_176 hl (k := 5) rfl (by rw [ex6_22]; rfl) (by decide) rfl (fun ls hl => ?_)
            refine lv_goto (tgt := 26) hx hb d_LC_takeSimple_179 (by decide) ?_
            exact ih_26 _ hm _ _ _ _ _ rfl ls H locs (lv_sub hl [2, 3, 4, 1, 5, 0] rfl) hP hD hS
          clear hJ_158
          refine lv_icmp_gt (tgt := 109) hx hb d_LC_takeSimple_75 (by decide) (fun c_23 => ?_) (fun c_23 => ?_)
          · have hm := ite_t c_23 hm
            refine lv_aload_n hx hb d_LC_takeSimple_109 rfl (lv_at hl 2 rfl) ?_
            refine lv_iload hx hb d_LC_takeSimple_110 (lv_at hl 0 rfl) ?_
            obtain ⟨q_24, hc_25, hm⟩ := gM_e hm
            have hPc : va_P (dC, dI) vwCl (wd_Net_allNear cI cJ cG cZ a1 a1_near a1_tail a1_head v1_nodes v1_arcCount v1_version w1_near) H := hP.sub [2, 3] rfl
            have hDc : va_D A (wd_Net_allNear cI cJ cG cZ a1 a1_near a1_tail a1_head v1_nodes v1_arcCount v1_version w1_near) := hD.sub [2, 3] (by decide) rfl
            have hFc : ∀ q, va_A (wd_Net_allNear cI cJ cG cZ a1 a1_near a1_tail a1_head v1_nodes v1_arcCount v1_version w1_near) H.size q → A q := va_free hD hS hA [2, 3] rfl
            refine va_calli (va_runV (As := [.int x7_16]) (rest := []) ⟨hx, hb, hml, hown, htt⟩ (c_Net_allNear l dC dI cI cJ cG cZ a1 a1_near a1_tail a1_head H.size F v1_nodes v1_arcCount v1_version w1_near x7_16 q_24 hc_25) (cwV 1 htt (gdV kt_468 kt_469 kt_470 kt_2 kt_471) rfl rfl rfl (by decide +kernel) ⟨(Nat.le_of_ble_eq_true rfl), (Nat.le_of_ble_eq_true rfl)⟩) ⟨PcS_blind, va_recv hK hPc (ci := 1) (q0 := 0) rfl rfl, PcS_in hPc hK hDc hNw⟩ rfl rfl hl.1 rfl (lv_room (Nat.le_of_ble_eq_true rfl)) d_LC_takeSimple_112 ⟨Nat.zero_le _, Nat.zero_le _⟩) hS (fun q _ h => hFc q h) hFc (fun r_26 u t H1 locs ht hvm hw hB hz1 hk1 hS => ?_)
            obtain ⟨hP1, hK1, hD1⟩ := hB
            rw [ht] at hP1
            obtain ⟨hw, hz_27⟩ := hw
            subst hw
            obtain ⟨hP, hD⟩ := va_join (wr := [(a0, .inr (4, [.ref a0_open, .ref a0_clash, .ref a0_weight, .ref a0_common, .ref a0_gain, .ref a0_sum, .int v0_rest_11, .int v0_versionSeen, .int v0_restSeen])), (a0_open, .inl (cI, 12, .inl w0_open_12))]) (w1 := (wd_Net_allNear cI cJ cG cZ a1 a1_near a1_tail a1_head v1_nodes v1_arcCount v1_version w1_near)) hP hD [2, 3] [0, 1] rfl rfl (by decide) (by decide) hk1 hFc hP1 hD1
            have hP : va_P (dC, dI) vwCl (wd_LC_takeSimple cI cJ cG cZ a0 a1 a0_open a0_clash a0_weight a0_common a0_gain a0_sum a1_near a1_tail a1_head v0_rest_11 v0_versionSeen v0_restSeen w0_open_12 v1_nodes v1_arcCount v1_version w1_near) H1 := hP.sub [0, 1, 2, 3] rfl
            have hD : va_D A (wd_LC_takeSimple cI cJ cG cZ a0 a1 a0_open a0_clash a0_weight a0_common a0_gain a0_sum a1_near a1_tail a1_head v0_rest_11 v0_versionSeen v0_restSeen w0_open_12 v1_nodes v1_arcCount v1_version w1_near) := hD.sub [0, 1, 2, 3] (by decide) rfl
            clear hP1 hK1 hD1 hk1 hPc hDc hFc ht hvm hz1
            generalize H1 = H at hP hS ⊢
            refine lv_if_eq (tgt := 176) hx hb d_LC_takeSimple_115 (by decide) (fun c_28 => ?_) (fun c_28 => ?_)
            · have hm := ite_t c_28 hm
              obtain ⟨x6_29, ex6_29⟩ : ∃ y : Int32, y = x6_10 + 1 := ⟨_, rfl⟩
              have hm := gB_at ex6_29 hm
              refine lv_iinc (v := x6_29) (lv' := [(6, .int x6_29), (7, .int x7_16), (0, .ref a0), (1, .ref a1), (2, .long x2_8), (4, .int x4_9), (5, .int x5_3)]) hx hb d_LC_takeSimple_176 hl (k := 6) rfl (by rw [ex6_29]; rfl) (by decide) rfl (fun ls hl => ?_)
              refine lv_goto (tgt := 26) hx hb d_LC_takeSimple_179 (by decide) ?_
              exact ih_26 _ hm _ _ _ _ _ rfl ls H locs (lv_sub hl [2, 3, 4, 5, 6, 0] rfl) hP hD hS
            · have hm := ite_f c_28 hm
              refine lv_aload_n hx hb d_LC_takeSimple_118 rfl (lv_at hl 1 rfl) ?_
              refine lv_aload_n hx hb d_LC_takeSimple_119 rfl (lv_at hl 2 rfl) ?_
              refine lv_iload hx hb d_LC_takeSimple_120 (lv_at hl 0 rfl) ?_
              obtain ⟨q_30, hc_31, hm⟩ := gM_e hm
              have hPc : va_P (dC, dI) vwCl (wd_LC_openTo cI cJ cG cZ a0 a1 a0_open a0_clash a0_weight a0_common a0_gain a0_sum a1_near a1_tail a1_head v0_rest_11 v0_versionSeen v0_restSeen w0_open_12 v1_nodes v1_arcCount v1_version) H := hP.sub [0, 1, 2] rfl
              have hDc : va_D A (wd_LC_openTo cI cJ cG cZ a0 a1 a0_open a0_clash a0_weight a0_common a0_gain a0_sum a1_near a1_tail a1_head v0_rest_11 v0_versionSeen v0_restSeen w0_open_12 v1_nodes v1_arcCount v1_version) := hD.sub [0, 1, 2] (by decide) rfl
              have hFc : ∀ q, va_A (wd_LC_openTo cI cJ cG cZ a0 a1 a0_open a0_clash a0_weight a0_common a0_gain a0_sum a1_near a1_tail a1_head v0_rest_11 v0_versionSeen v0_restSeen w0_open_12 v1_nodes v1_arcCount v1_version) H.size q → A q := va_free hD hS hA [0, 1, 2] rfl
              refine va_calli (va_runV (As := [.ref a1, .int x7_16]) (rest := []) ⟨hx, hb, hml, hown, htt⟩ (c_LC_openTo l dC dI cI cJ cG cZ a0 a1 a0_open a0_clash a0_weight a0_common a0_gain a0_sum a1_near a1_tail a1_head H.size F v0_rest_11 v0_versionSeen v0_restSeen w0_open_12 v1_nodes v1_arcCount v1_version x7_16 q_30 hc_31) (cwV 2 htt (gdV kt_472 kt_474 kp_22 kt_5 kt_475) rfl rfl rfl (by decide +kernel) ⟨(Nat.le_of_ble_eq_true rfl), (Nat.le_of_ble_eq_true rfl)⟩) ⟨PcS_blind, va_recv hK hPc (ci := 4) (q0 := 0) rfl rfl, PcS_in hPc hK hDc hNw⟩ rfl rfl hl.1 rfl (lv_room (Nat.le_of_ble_eq_true rfl)) d_LC_takeSimple_122 ⟨Nat.zero_le _, Nat.zero_le _⟩) hS (fun q _ h => hFc q h) hFc (fun r_32 u t H1 locs ht hvm hw hB hz1 hk1 hS => ?_)
              obtain ⟨hP1, hK1, hD1⟩ := hB
              rw [ht] at hP1
              subst hw
              obtain ⟨hP, hD⟩ := va_join (wr := [(a1_near, .inl (cI, 12, .inl w1_near))]) (w1 := (wd_LC_openTo cI cJ cG cZ a0 a1 a0_open a0_clash a0_weight a0_common a0_gain a0_sum a1_near a1_tail a1_head v0_rest_11 v0_versionSeen v0_restSeen w0_open_12 v1_nodes v1_arcCount v1_version)) hP hD [0, 1, 2] [3] rfl rfl (by decide) (by decide) hk1 hFc hP1 hD1
              have hP : va_P (dC, dI) vwCl (wd_LC_takeSimple cI cJ cG cZ a0 a1 a0_open a0_clash a0_weight a0_common a0_gain a0_sum a1_near a1_tail a1_head v0_rest_11 v0_versionSeen v0_restSeen w0_open_12 v1_nodes v1_arcCount v1_version w1_near) H1 := hP.sub [1, 2, 3, 0] rfl
              have hD : va_D A (wd_LC_takeSimple cI cJ cG cZ a0 a1 a0_open a0_clash a0_weight a0_common a0_gain a0_sum a1_near a1_tail a1_head v0_rest_11 v0_versionSeen v0_restSeen w0_open_12 v1_nodes v1_arcCount v1_version w1_near) := hD.sub [1, 2, 3, 0] (by decide) rfl
              clear hP1 hK1 hD1 hk1 hPc hDc hFc ht hvm hz1
              generalize H1 = H at hP hS ⊢
              refine lv_aload_n hx hb d_LC_takeSimple_125 rfl (lv_at hl 1 rfl) ?_
              refine va_get (D := (dC, dI)) (ci := 4) (v := .ref a0_open) (C := R_LC) (T := T_LC) (N := 9) hx hb htt hin_LC hown hK hP 0 rfl rfl 0 (by decide) (htt _ kt_146) (fun _ h9 => h9) rfl d_LC_takeSimple_126 ?_
              refine lv_iload hx hb d_LC_takeSimple_129 (lv_at hl 6 rfl) ?_
              obtain ⟨hi_33, hm⟩ := gC_e hm
              refine va_iald hx hb hK hP 1 0 rfl rfl (inb_vp hi_33) d_LC_takeSimple_131 ?_
              refine lv_iconst (v := (-1)) hx hb d_LC_takeSimple_132 (by decide) ?_
              refine lv_ixor hx hb d_LC_takeSimple_133 ?_
              refine lv_iand hx hb d_LC_takeSimple_134 ?_
              refine lv_if_ne (tgt := 176) hx hb d_LC_takeSimple_135 (by decide) (fun c_34 => ?_) (fun c_34 => ?_)
              · have hm := ite_f c_34 hm
                obtain ⟨x6_35, ex6_35⟩ : ∃ y : Int32, y = x6_10 + 1 := ⟨_, rfl⟩
                have hm := gB_at ex6_35 hm
                refine lv_iinc (v := x6_35) (lv' := [(6, .int x6_35), (7, .int x7_16), (0, .ref a0), (1, .ref a1), (2, .long x2_8), (4, .int x4_9), (5, .int x5_3)]) hx hb d_LC_takeSimple_176 hl (k := 6) rfl (by rw [ex6_35]; rfl) (by decide) rfl (fun ls hl => ?_)
                refine lv_goto (tgt := 26) hx hb d_LC_takeSimple_179 (by decide) ?_
                exact ih_26 _ hm _ _ _ _ _ rfl ls H locs (lv_sub hl [2, 3, 4, 5, 6, 0] rfl) hP hD hS
              · have hm := ite_t c_34 hm
                refine lv_lload_n hx hb d_LC_takeSimple_138 rfl (lv_at hl 3 rfl) ?_
                refine lv_aload_n hx hb d_LC_takeSimple_139 rfl (lv_at hl 1 rfl) ?_
                refine va_get (D := (dC, dI)) (ci := 4) (v := .ref a0_open) (C := R_LC) (T := T_LC) (N := 9) hx hb htt hin_LC hown hK hP 0 rfl rfl 0 (by decide) (htt _ kt_146) (fun _ h9 => h9) rfl d_LC_takeSimple_140 ?_
                refine lv_iload hx hb d_LC_takeSimple_143 (lv_at hl 6 rfl) ?_
                obtain ⟨hi_36, hm⟩ := gC_e hm
                refine va_iald hx hb hK hP 1 0 rfl rfl (inb_vp hi_36) d_LC_takeSimple_145 ?_
                refine gx_bit hx hb hml hown htt kt_463 hK hNw hP hD hS hA hl.1 (lv_room (Nat.le_of_ble_eq_true rfl)) (Nat.le_of_ble_eq_true rfl) (Nat.le_of_ble_eq_true rfl) (Nat.zero_le _) (Nat.zero_le _) d_LC_takeSimple_146 (fun H locs hP hD hS => ?_)
                refine lv_iload hx hb d_LC_takeSimple_149 (lv_at hl 0 rfl) ?_
                refine gx_bit hx hb hml hown htt kt_463 hK hNw hP hD hS hA hl.1 (lv_room (Nat.le_of_ble_eq_true rfl)) (Nat.le_of_ble_eq_true rfl) (Nat.le_of_ble_eq_true rfl) (Nat.zero_le _) (Nat.zero_le _) d_LC_takeSimple_151 (fun H locs hP hD hS => ?_)
                refine lv_isub hx hb d_LC_takeSimple_154 ?_
                refine lv_i2l hx hb d_LC_takeSimple_155 rfl ?_
                refine lv_lmul hx hb d_LC_takeSimple_156 ?_
                refine lv_topl (fun x2_37 ex2_37 => ?_)
                have hm := gB_at ex2_37 hm
                refine lv_lstore_n (lv' := [(2, .long x2_37), (7, .int x7_16), (0, .ref a0), (1, .ref a1), (4, .int x4_9), (5, .int x5_3), (6, .int x6_10)]) hx hb d_LC_takeSimple_157 rfl hl (by decide) rfl (fun ls hl => ?_)
                exact jp_158 _ _ ls H locs hm (lv_sub hl [2, 3, 0, 5, 6] rfl) hP hD hS
          · have hm := ite_f c_23 hm
            refine lv_lload_n hx hb d_LC_takeSimple_78 rfl (lv_at hl 3 rfl) ?_
            refine lv_aload_n hx hb d_LC_takeSimple_79 rfl (lv_at hl 1 rfl) ?_
            refine va_get (D := (dC, dI)) (ci := 4) (v := .ref a0_open) (C := R_LC) (T := T_LC) (N := 9) hx hb htt hin_LC hown hK hP 0 rfl rfl 0 (by decide) (htt _ kt_146) (fun _ h9 => h9) rfl d_LC_takeSimple_80 ?_
            refine lv_iload hx hb d_LC_takeSimple_83 (lv_at hl 6 rfl) ?_
            obtain ⟨hi_38, hm⟩ := gC_e hm
            refine va_iald hx hb hK hP 1 0 rfl rfl (inb_vp hi_38) d_LC_takeSimple_85 ?_
            refine gx_bit hx hb hml hown htt kt_463 hK hNw hP hD hS hA hl.1 (lv_room (Nat.le_of_ble_eq_true rfl)) (Nat.le_of_ble_eq_true rfl) (Nat.le_of_ble_eq_true rfl) (Nat.zero_le _) (Nat.zero_le _) d_LC_takeSimple_86 (fun H locs hP hD hS => ?_)
            refine lv_i2l hx hb d_LC_takeSimple_89 rfl ?_
            refine lv_lmul hx hb d_LC_takeSimple_90 ?_
            refine lv_topl (fun x2_39 ex2_39 => ?_)
            have hm := gB_at ex2_39 hm
            refine lv_lstore_n (lv' := [(2, .long x2_39), (7, .int x7_16), (0, .ref a0), (1, .ref a1), (4, .int x4_9), (5, .int x5_3), (6, .int x6_10)]) hx hb d_LC_takeSimple_91 rfl hl (by decide) rfl (fun ls hl => ?_)
            refine lv_aload_n hx hb d_LC_takeSimple_92 rfl (lv_at hl 2 rfl) ?_
            refine lv_aload_n hx hb d_LC_takeSimple_93 rfl (lv_at hl 3 rfl) ?_
            refine lv_iload hx hb d_LC_takeSimple_94 (lv_at hl 1 rfl) ?_
            refine lv_aload_n hx hb d_LC_takeSimple_96 rfl (lv_at hl 2 rfl) ?_
            refine va_get (D := (dC, dI)) (ci := 4) (v := .ref a0_open) (C := R_LC) (T := T_LC) (N := 9) hx hb htt hin_LC hown hK hP 0 rfl rfl 0 (by decide) (htt _ kt_146) (fun _ h9 => h9) rfl d_LC_takeSimple_97 ?_
            refine lv_iload hx hb d_LC_takeSimple_100 (lv_at hl 6 rfl) ?_
            obtain ⟨hi_40, hm⟩ := gC_e hm
            refine va_iald hx hb hK hP 1 0 rfl rfl (inb_vp hi_40) d_LC_takeSimple_102 ?_
            obtain ⟨w0_open_41, hc_42, hm⟩ := gM_e hm
            have hPc : va_P (dC, dI) vwCl (wd_LC_takeColourFrom cI cJ cG cZ a0 a1 a0_open a0_clash a0_weight a0_common a0_gain a0_sum a1_near a1_tail a1_head v0_rest_11 v0_versionSeen v0_restSeen w0_open_12 v1_nodes v1_arcCount v1_version) H := hP.sub [0, 1, 2] rfl
            have hDc : va_D A (wd_LC_takeColourFrom cI cJ cG cZ a0 a1 a0_open a0_clash a0_weight a0_common a0_gain a0_sum a1_near a1_tail a1_head v0_rest_11 v0_versionSeen v0_restSeen w0_open_12 v1_nodes v1_arcCount v1_version) := hD.sub [0, 1, 2] (by decide) rfl
            have hFc : ∀ q, va_A (wd_LC_takeColourFrom cI cJ cG cZ a0 a1 a0_open a0_clash a0_weight a0_common a0_gain a0_sum a1_near a1_tail a1_head v0_rest_11 v0_versionSeen v0_restSeen w0_open_12 v1_nodes v1_arcCount v1_version) H.size q → A q := va_free hD hS hA [0, 1, 2] rfl
            refine va_callv (va_runV (As := [.ref a1, .int x7_16, .int (w0_open_12 x6_10.toNatClampNeg)]) (rest := []) ⟨hx, hb, hml, hown, htt⟩ (c_LC_takeColourFrom l dC dI cI cJ cG cZ a0 a1 a0_open a0_clash a0_weight a0_common a0_gain a0_sum a1_near a1_tail a1_head H.size F v0_rest_11 v0_versionSeen v0_restSeen w0_open_12 v1_nodes v1_arcCount v1_version x7_16 (w0_open_12 x6_10.toNatClampNeg) w0_open_41 hc_42) (cwV 3 htt (gdV kt_464 kt_466 kp_21 kt_5 kt_467) rfl rfl rfl (by decide +kernel) ⟨(Nat.le_of_ble_eq_true rfl), (Nat.le_of_ble_eq_true rfl)⟩) ⟨PcS_blind, va_recv hK hPc (ci := 4) (q0 := 0) rfl rfl, PcS_in hPc hK hDc hNw⟩ rfl rfl hl.1 rfl (lv_room (Nat.le_of_ble_eq_true rfl)) d_LC_takeSimple_103 ⟨Nat.zero_le _, Nat.zero_le _⟩) hS (fun q _ h => hFc q h) hFc (fun u t H1 locs ht hvm hw hB hz1 hk1 hS => ?_)
            obtain ⟨hP1, hK1, hD1⟩ := hB
            rw [ht] at hP1
            obtain ⟨hP, hD⟩ := va_join (wr := [(a1_near, .inl (cI, 12, .inl w1_near))]) (w1 := (wd_LC_takeColourFrom cI cJ cG cZ a0 a1 a0_open a0_clash a0_weight a0_common a0_gain a0_sum a1_near a1_tail a1_head v0_rest_11 v0_versionSeen v0_restSeen w0_open_41 v1_nodes v1_arcCount v1_version)) hP hD [0, 1, 2] [3] rfl rfl (by decide) (by decide) hk1 hFc hP1 hD1
            have hP : va_P (dC, dI) vwCl (wd_LC_takeSimple cI cJ cG cZ a0 a1 a0_open a0_clash a0_weight a0_common a0_gain a0_sum a1_near a1_tail a1_head v0_rest_11 v0_versionSeen v0_restSeen w0_open_41 v1_nodes v1_arcCount v1_version w1_near) H1 := hP.sub [1, 2, 3, 0] rfl
            have hD : va_D A (wd_LC_takeSimple cI cJ cG cZ a0 a1 a0_open a0_clash a0_weight a0_common a0_gain a0_sum a1_near a1_tail a1_head v0_rest_11 v0_versionSeen v0_restSeen w0_open_41 v1_nodes v1_arcCount v1_version w1_near) := hD.sub [1, 2, 3, 0] (by decide) rfl
            clear hP1 hK1 hD1 hk1 hPc hDc hFc ht hvm hz1
            generalize H1 = H at hP hS ⊢
            refine lv_goto (tgt := 158) hx hb d_LC_takeSimple_106 (by decide) ?_
            exact jp_158 _ _ ls H locs hm (lv_sub hl [2, 3, 0, 5, 6] rfl) hP hD hS
        · have hm := ite_t c_17 hm
          refine lv_goto (tgt := 176) hx hb d_LC_takeSimple_61 (by decide) ?_
          obtain ⟨x6_43, ex6_43⟩ : ∃ y : Int32, y = x6_10 + 1 := ⟨_, rfl⟩
          have hm := gB_at ex6_43 hm
          refine lv_iinc (v := x6_43) (lv' := [(6, .int x6_43), (7, .int x7_16), (0, .ref a0), (1, .ref a1), (2, .long x2_8), (4, .int x4_9), (5, .int x5_3)]) hx hb d_LC_takeSimple_176 hl (k := 6) rfl (by rw [ex6_43]; rfl) (by decide) rfl (fun ls hl => ?_)
          refine lv_goto (tgt := 26) hx hb d_LC_takeSimple_179 (by decide) ?_
          exact ih_26 _ hm _ _ _ _ _ rfl ls H locs (lv_sub hl [2, 3, 4, 5, 6, 0] rfl) hP hD hS
theorem d_LC_clashIn_0 : decode prog_3_method_8_code 0 = .ok (.iload_n 2, 1) := by decide +kernel
theorem d_LC_clashIn_1 : decode prog_3_method_8_code 1 = .ok (.iload_n 2, 1) := by decide +kernel
theorem d_LC_clashIn_2 : decode prog_3_method_8_code 2 = .ok (.iconst 1, 1) := by decide +kernel
theorem d_LC_clashIn_3 : decode prog_3_method_8_code 3 = .ok (.isub, 1) := by decide +kernel
theorem d_LC_clashIn_4 : decode prog_3_method_8_code 4 = .ok (.iand, 1) := by decide +kernel
theorem d_LC_clashIn_5 : decode prog_3_method_8_code 5 = .ok (.istore_n 3, 1) := by decide +kernel
theorem d_LC_clashIn_6 : decode prog_3_method_8_code 6 = .ok (.aload_n 0, 1) := by decide +kernel
theorem d_LC_clashIn_7 : decode prog_3_method_8_code 7 = .ok (.getfield 15, 3) := by decide +kernel
theorem d_LC_clashIn_10 : decode prog_3_method_8_code 10 = .ok (.iload_n 3, 1) := by decide +kernel
theorem d_LC_clashIn_11 : decode prog_3_method_8_code 11 = .ok (.iaload, 1) := by decide +kernel
theorem d_LC_clashIn_12 : decode prog_3_method_8_code 12 = .ok (.ifCond .eq 10, 3) := by decide +kernel
theorem d_LC_clashIn_15 : decode prog_3_method_8_code 15 = .ok (.aload_n 0, 1) := by decide +kernel
theorem d_LC_clashIn_16 : decode prog_3_method_8_code 16 = .ok (.getfield 15, 3) := by decide +kernel
theorem d_LC_clashIn_19 : decode prog_3_method_8_code 19 = .ok (.iload_n 3, 1) := by decide +kernel
theorem d_LC_clashIn_20 : decode prog_3_method_8_code 20 = .ok (.iaload, 1) := by decide +kernel
theorem d_LC_clashIn_21 : decode prog_3_method_8_code 21 = .ok (.ireturn, 1) := by decide +kernel
theorem d_LC_clashIn_22 : decode prog_3_method_8_code 22 = .ok (.aload_n 1, 1) := by decide +kernel
theorem d_LC_clashIn_23 : decode prog_3_method_8_code 23 = .ok (.getfield 79, 3) := by decide +kernel
theorem d_LC_clashIn_26 : decode prog_3_method_8_code 26 = .ok (.iload_n 2, 1) := by decide +kernel
theorem d_LC_clashIn_27 : decode prog_3_method_8_code 27 = .ok (.invokestatic 110, 3) := by decide +kernel
theorem d_LC_clashIn_30 : decode prog_3_method_8_code 30 = .ok (.iaload, 1) := by decide +kernel
theorem d_LC_clashIn_31 : decode prog_3_method_8_code 31 = .ok (.iload_n 3, 1) := by decide +kernel
theorem d_LC_clashIn_32 : decode prog_3_method_8_code 32 = .ok (.iand, 1) := by decide +kernel
theorem d_LC_clashIn_33 : decode prog_3_method_8_code 33 = .ok (.ifCond .eq 9, 3) := by decide +kernel
theorem d_LC_clashIn_36 : decode prog_3_method_8_code 36 = .ok (.iload_n 2, 1) := by decide +kernel
theorem d_LC_clashIn_37 : decode prog_3_method_8_code 37 = .ok (.iload_n 3, 1) := by decide +kernel
theorem d_LC_clashIn_38 : decode prog_3_method_8_code 38 = .ok (.ixor, 1) := by decide +kernel
theorem d_LC_clashIn_39 : decode prog_3_method_8_code 39 = .ok (.goto 4, 3) := by decide +kernel
theorem d_LC_clashIn_42 : decode prog_3_method_8_code 42 = .ok (.iconst 0, 1) := by decide +kernel
theorem d_LC_clashIn_43 : decode prog_3_method_8_code 43 = .ok (.ireturn, 1) := by decide +kernel
abbrev wd_LC_clashIn (cI cJ cG cZ : ClassId) (a0 a1 a0_open a0_clash a0_weight a0_common a0_gain a0_sum a1_near a1_tail a1_head : Nat) (v0_rest : Int32) (v0_versionSeen : Int32) (v0_restSeen : Int32) (n0_clash : Nat) (w0_clash : Nat → Int32) (v1_nodes : Int32) (v1_arcCount : Int32) (v1_version : Int32) (w1_near : Nat → Int32) : va_W := [(a0, .inr (4, [.ref a0_open, .ref a0_clash, .ref a0_weight, .ref a0_common, .ref a0_gain, .ref a0_sum, .int v0_rest, .int v0_versionSeen, .int v0_restSeen])), (a0_clash, .inl (cI, n0_clash, .inl w0_clash)), (a1, .inr (1, [.ref a1_near, .ref a1_tail, .ref a1_head, .int v1_nodes, .int v1_arcCount, .int v1_version])), (a1_near, .inl (cI, 12, .inl w1_near))]
abbrev us_LC_clashIn : List Cond := .code y_LC_clashIn prog_3_method_8_code 4 (some .int) :: gtbl
abbrev rm_LC_clashIn : Room := { frames := 2, cells := 0, slots := 0, locals := 40 }
def m_LC_clashIn (F : Nat) (v0_rest : Int32) (v0_versionSeen : Int32) (v0_restSeen : Int32) (n0_clash : Nat) (w0_clash : Nat → Int32) (v1_nodes : Int32) (v1_arcCount : Int32) (v1_version : Int32) (w1_near : Nat → Int32) (p2 : Int32) : Option (Int32) :=
  gB (p2 &&& (p2 - 1)) (fun x3_1 =>
  gC (inb x3_1 n0_clash) (
  if (w0_clash x3_1.toNatClampNeg) = 0 then (
    gM (m_CS_lowestOf F p2) (fun q_4 =>
    gC (inb q_4 12) (
    if ((w1_near q_4.toNatClampNeg) &&& x3_1) = 0 then (
      some 0
    ) else (
      some (p2 ^^^ x3_1)
    )))
  ) else (
    gC (inb x3_1 n0_clash) (
    some (w0_clash x3_1.toNatClampNeg))
  )))
set_option maxHeartbeats 4000000 in
set_option maxRecDepth 100000 in
theorem c_LC_clashIn (l : Launch) (dC : Nat → ClassId) (dI : Nat → Nat → Nat) (cI cJ cG cZ : ClassId) (a0 a1 a0_open a0_clash a0_weight a0_common a0_gain a0_sum a1_near a1_tail a1_head : Nat) (sz : Nat) (F : Nat) (v0_rest : Int32) (v0_versionSeen : Int32) (v0_restSeen : Int32) (n0_clash : Nat) (w0_clash : Nat → Int32) (v1_nodes : Int32) (v1_arcCount : Int32) (v1_version : Int32) (w1_near : Nat → Int32) (p2 : Int32) (ret : Int32) (hm : m_LC_clashIn F v0_rest v0_versionSeen v0_restSeen n0_clash w0_clash v1_nodes v1_arcCount v1_version w1_near p2 = some ret) : Met l y_LC_clashIn us_LC_clashIn rm_LC_clashIn (PcS (dC, dI) (tyL cI cJ cG cZ) [.ref a0, .ref a1, .int p2] sz (wd_LC_clashIn cI cJ cG cZ a0 a1 a0_open a0_clash a0_weight a0_common a0_gain a0_sum a1_near a1_tail a1_head v0_rest v0_versionSeen v0_restSeen n0_clash w0_clash v1_nodes v1_arcCount v1_version w1_near)) (va_Qi (fun (r : Int32) (_ : Unit) => ret = r) (fun _ t => PoS (dC, dI) (tyL cI cJ cG cZ) (wd_LC_clashIn cI cJ cG cZ a0 a1 a0_open a0_clash a0_weight a0_common a0_gain a0_sum a1_near a1_tail a1_head v0_rest v0_versionSeen v0_restSeen n0_clash w0_clash v1_nodes v1_arcCount v1_version w1_near) (va_A (wd_LC_clashIn cI cJ cG cZ a0 a1 a0_open a0_clash a0_weight a0_common a0_gain a0_sum a1_near a1_tail a1_head v0_rest v0_versionSeen v0_restSeen n0_clash w0_clash v1_nodes v1_arcCount v1_version w1_near) sz) t) (va_A (wd_LC_clashIn cI cJ cG cZ a0 a1 a0_open a0_clash a0_weight a0_common a0_gain a0_sum a1_near a1_tail a1_head v0_rest v0_versionSeen v0_restSeen n0_clash w0_clash v1_nodes v1_arcCount v1_version w1_near) sz)) 0 0 (va_A (wd_LC_clashIn cI cJ cG cZ a0 a1 a0_open a0_clash a0_weight a0_common a0_gain a0_sum a1_near a1_tail a1_head v0_rest v0_versionSeen v0_restSeen n0_clash w0_clash v1_nodes v1_arcCount v1_version w1_near) sz) := by
  refine Met.ofW (cc := prog_3_method_8_code) (maxL := 4) (ret := (some .int)) (by decide) rfl ?_
  intro p e s m args below meth c s₁ B hml hv
  obtain ⟨rfl, hsz, hP, hK, hD0, hNw⟩ := hv
  have hx := B.exec
  have hb := B.bytes
  have hr := B.returns
  have htt : ∀ w ∈ gtbl, w.before _ s = true := fun w h => atoms_spec (ws := us_LC_clashIn) B.pre w (List.mem_cons_of_mem _ h)
  have hown : s.vm.findClass R_LC = some m.cls := findClass_of_methodNamed B.named
  have hlocks := B.notSynchronized
  subst hsz
  have hD := hD0.self (sz := s.heap.size)
  generalize hAe : va_A (wd_LC_clashIn cI cJ cG cZ a0 a1 a0_open a0_clash a0_weight a0_common a0_gain a0_sum a1_near a1_tail a1_head v0_rest v0_versionSeen v0_restSeen n0_clash w0_clash v1_nodes v1_arcCount v1_version w1_near) s.heap.size = A at hD ⊢
  have hA : ∀ q : Nat, s.heap.size ≤ q → A q := fun q h => by rw [← hAe]; exact Or.inr h
  clear hAe hD0
  have hS : va_S A s.heap s.heap [] := va_S.rf
  have hl := lv_entry ([.ref a0, .ref a1, .int p2]) (n := 4) (Nat.le_of_ble_eq_true rfl)
  rw [lg_entry_eq]
  generalize (lg_sl ([.ref a0, .ref a1, .int p2]) ++ List.replicate (4 - (lg_sl ([.ref a0, .ref a1, .int p2])).length) Slot.unset).toArray = ls at hl ⊢
  have hl : lv_has ls 4 [(0, .ref a0), (1, .ref a1), (2, .int p2)] := hl
  generalize hH : s.heap = H at hP ⊢
  have hS : va_S A s.heap H [] := hH ▸ hS
  generalize hLo : ([] : List Loc) = locs at hS ⊢
  clear hH hLo
  unfold m_LC_clashIn at hm
  refine lv_iload_n hx hb d_LC_clashIn_0 rfl (lv_at hl 2 rfl) ?_
  refine lv_iload_n hx hb d_LC_clashIn_1 rfl (lv_at hl 2 rfl) ?_
  refine lv_iconst (v := 1) hx hb d_LC_clashIn_2 (by decide) ?_
  refine lv_isub hx hb d_LC_clashIn_3 ?_
  refine lv_iand hx hb d_LC_clashIn_4 ?_
  refine lv_topi (fun x3_1 ex3_1 => ?_)
  have hm := gB_at ex3_1 hm
  refine lv_istore_n (lv' := [(3, .int x3_1), (0, .ref a0), (1, .ref a1), (2, .int p2)]) hx hb d_LC_clashIn_5 rfl hl (by decide) rfl (fun ls hl => ?_)
  refine lv_aload_n hx hb d_LC_clashIn_6 rfl (lv_at hl 1 rfl) ?_
  refine va_get (D := (dC, dI)) (ci := 4) (v := .ref a0_clash) (C := R_LC) (T := T_LC) (N := 9) hx hb htt hin_LC hown hK hP 0 rfl rfl 1 (by decide) (htt _ kt_147) (fun _ h9 => h9) rfl d_LC_clashIn_7 ?_
  refine lv_iload_n hx hb d_LC_clashIn_10 rfl (lv_at hl 0 rfl) ?_
  obtain ⟨hi_2, hm⟩ := gC_e hm
  refine va_iald hx hb hK hP 1 0 rfl rfl (inb_vp hi_2) d_LC_clashIn_11 ?_
  refine lv_if_eq (tgt := 22) hx hb d_LC_clashIn_12 (by decide) (fun c_3 => ?_) (fun c_3 => ?_)
  · have hm := ite_t c_3 hm
    refine lv_aload_n hx hb d_LC_clashIn_22 rfl (lv_at hl 2 rfl) ?_
    refine va_get (D := (dC, dI)) (ci := 1) (v := .ref a1_near) (C := R_Net) (T := T_Net) (N := 6) hx hb htt hin_Net hown hK hP 2 rfl rfl 0 (by decide) (htt _ kt_37) (fun _ h9 => h9) rfl d_LC_clashIn_23 ?_
    refine lv_iload_n hx hb d_LC_clashIn_26 rfl (lv_at hl 3 rfl) ?_
    obtain ⟨q_4, hc_5, hm⟩ := gM_e hm
    have hPc : va_P (dC, dI) vwCl (wd_CS_lowestOf cI cJ cG cZ) H := hP.sub [] rfl
    have hDc : va_D A (wd_CS_lowestOf cI cJ cG cZ) := hD.sub [] (by decide) rfl
    have hFc : ∀ q, va_A (wd_CS_lowestOf cI cJ cG cZ) H.size q → A q := va_free hD hS hA [] rfl
    refine va_calli (va_runSN (host := R_CS) (As := [.int p2]) (rest := [.ref a1_near]) ⟨hx, hb, hml, hown, htt⟩ (c_CS_lowestOf l dC dI cI cJ cG cZ H.size F p2 q_4 hc_5) ⟨va_cnB 1 htt (gdN kt_427) rfl rfl rfl (hNw _ kt_492) (htt _ kt_1) (by decide +kernel) ⟨(Nat.le_of_ble_eq_true rfl), (Nat.le_of_ble_eq_true rfl)⟩, htt _ kt_426, trivial⟩ ⟨PcS_blind, PcS_in hPc hK hDc hNw⟩ rfl rfl hl.1 rfl (lv_room (Nat.le_of_ble_eq_true rfl)) d_LC_clashIn_27 ⟨Nat.zero_le _, Nat.zero_le _⟩) hS (fun q _ h => hFc q h) hFc (fun r_6 u t H1 locs ht hvm hw hB hz1 hk1 hS => ?_)
    obtain ⟨hP1, hK1, hD1⟩ := hB
    rw [ht] at hP1
    subst hw
    obtain ⟨hP, hD⟩ := va_join (wr := [(a0, .inr (4, [.ref a0_open, .ref a0_clash, .ref a0_weight, .ref a0_common, .ref a0_gain, .ref a0_sum, .int v0_rest, .int v0_versionSeen, .int v0_restSeen])), (a0_clash, .inl (cI, n0_clash, .inl w0_clash)), (a1, .inr (1, [.ref a1_near, .ref a1_tail, .ref a1_head, .int v1_nodes, .int v1_arcCount, .int v1_version])), (a1_near, .inl (cI, 12, .inl w1_near))]) (w1 := (wd_CS_lowestOf cI cJ cG cZ)) hP hD [] [0, 1, 2, 3] rfl rfl (by decide) (by decide) hk1 hFc hP1 hD1
    have hP : va_P (dC, dI) vwCl (wd_LC_clashIn cI cJ cG cZ a0 a1 a0_open a0_clash a0_weight a0_common a0_gain a0_sum a1_near a1_tail a1_head v0_rest v0_versionSeen v0_restSeen n0_clash w0_clash v1_nodes v1_arcCount v1_version w1_near) H1 := hP.sub [0, 1, 2, 3] rfl
    have hD : va_D A (wd_LC_clashIn cI cJ cG cZ a0 a1 a0_open a0_clash a0_weight a0_common a0_gain a0_sum a1_near a1_tail a1_head v0_rest v0_versionSeen v0_restSeen n0_clash w0_clash v1_nodes v1_arcCount v1_version w1_near) := hD.sub [0, 1, 2, 3] (by decide) rfl
    clear hP1 hK1 hD1 hk1 hPc hDc hFc ht hvm hz1
    generalize H1 = H at hP hS ⊢
    obtain ⟨hi_7, hm⟩ := gC_e hm
    refine va_iald hx hb hK hP 3 0 rfl rfl (inb_vp hi_7) d_LC_clashIn_30 ?_
    refine lv_iload_n hx hb d_LC_clashIn_31 rfl (lv_at hl 0 rfl) ?_
    refine lv_iand hx hb d_LC_clashIn_32 ?_
    refine lv_if_eq (tgt := 42) hx hb d_LC_clashIn_33 (by decide) (fun c_8 => ?_) (fun c_8 => ?_)
    · have hm := ite_t c_8 hm
      refine lv_iconst (v := 0) hx hb d_LC_clashIn_42 (by decide) ?_
      cases hm
      exact W.iret hx hb hr (fun t ht hW => ⟨⟨_, (), rfl, rfl, by rw [ht]; exact hP, va_K.moved hW.alike hK, hD⟩, hS.F ht⟩) hS.2.2 d_LC_clashIn_43
    · have hm := ite_f c_8 hm
      refine lv_iload_n hx hb d_LC_clashIn_36 rfl (lv_at hl 3 rfl) ?_
      refine lv_iload_n hx hb d_LC_clashIn_37 rfl (lv_at hl 0 rfl) ?_
      refine lv_ixor hx hb d_LC_clashIn_38 ?_
      refine lv_goto (tgt := 43) hx hb d_LC_clashIn_39 (by decide) ?_
      cases hm
      exact W.iret hx hb hr (fun t ht hW => ⟨⟨_, (), rfl, rfl, by rw [ht]; exact hP, va_K.moved hW.alike hK, hD⟩, hS.F ht⟩) hS.2.2 d_LC_clashIn_43
  · have hm := ite_f c_3 hm
    refine lv_aload_n hx hb d_LC_clashIn_15 rfl (lv_at hl 1 rfl) ?_
    refine va_get (D := (dC, dI)) (ci := 4) (v := .ref a0_clash) (C := R_LC) (T := T_LC) (N := 9) hx hb htt hin_LC hown hK hP 0 rfl rfl 1 (by decide) (htt _ kt_147) (fun _ h9 => h9) rfl d_LC_clashIn_16 ?_
    refine lv_iload_n hx hb d_LC_clashIn_19 rfl (lv_at hl 0 rfl) ?_
    obtain ⟨hi_9, hm⟩ := gC_e hm
    refine va_iald hx hb hK hP 1 0 rfl rfl (inb_vp hi_9) d_LC_clashIn_20 ?_
    cases hm
    exact W.iret hx hb hr (fun t ht hW => ⟨⟨_, (), rfl, rfl, by rw [ht]; exact hP, va_K.moved hW.alike hK, hD⟩, hS.F ht⟩) hS.2.2 d_LC_clashIn_21
theorem d_LC_hangsTogether_0 : decode prog_3_method_9_code 0 = .ok (.iconst 0, 1) := by decide +kernel
theorem d_LC_hangsTogether_1 : decode prog_3_method_9_code 1 = .ok (.istore_n 3, 1) := by decide +kernel
theorem d_LC_hangsTogether_2 : decode prog_3_method_9_code 2 = .ok (.iload_n 3, 1) := by decide +kernel
theorem d_LC_hangsTogether_3 : decode prog_3_method_9_code 3 = .ok (.aload_n 1, 1) := by decide +kernel
theorem d_LC_hangsTogether_4 : decode prog_3_method_9_code 4 = .ok (.getfield 35, 3) := by decide +kernel
theorem d_LC_hangsTogether_7 : decode prog_3_method_9_code 7 = .ok (.if_icmp .ge 46, 3) := by decide +kernel
theorem d_LC_hangsTogether_10 : decode prog_3_method_9_code 10 = .ok (.iconst 1, 1) := by decide +kernel
theorem d_LC_hangsTogether_11 : decode prog_3_method_9_code 11 = .ok (.iload_n 3, 1) := by decide +kernel
theorem d_LC_hangsTogether_12 : decode prog_3_method_9_code 12 = .ok (.ishl, 1) := by decide +kernel
theorem d_LC_hangsTogether_13 : decode prog_3_method_9_code 13 = .ok (.istore 4, 2) := by decide +kernel
theorem d_LC_hangsTogether_15 : decode prog_3_method_9_code 15 = .ok (.iload_n 2, 1) := by decide +kernel
theorem d_LC_hangsTogether_16 : decode prog_3_method_9_code 16 = .ok (.iload 4, 2) := by decide +kernel
theorem d_LC_hangsTogether_18 : decode prog_3_method_9_code 18 = .ok (.iand, 1) := by decide +kernel
theorem d_LC_hangsTogether_19 : decode prog_3_method_9_code 19 = .ok (.ifCond .eq 28, 3) := by decide +kernel
theorem d_LC_hangsTogether_22 : decode prog_3_method_9_code 22 = .ok (.aload_n 1, 1) := by decide +kernel
theorem d_LC_hangsTogether_23 : decode prog_3_method_9_code 23 = .ok (.getfield 79, 3) := by decide +kernel
theorem d_LC_hangsTogether_26 : decode prog_3_method_9_code 26 = .ok (.iload_n 3, 1) := by decide +kernel
theorem d_LC_hangsTogether_27 : decode prog_3_method_9_code 27 = .ok (.iaload, 1) := by decide +kernel
theorem d_LC_hangsTogether_28 : decode prog_3_method_9_code 28 = .ok (.iload_n 2, 1) := by decide +kernel
theorem d_LC_hangsTogether_29 : decode prog_3_method_9_code 29 = .ok (.iand, 1) := by decide +kernel
theorem d_LC_hangsTogether_30 : decode prog_3_method_9_code 30 = .ok (.ifCond .eq 17, 3) := by decide +kernel
theorem d_LC_hangsTogether_33 : decode prog_3_method_9_code 33 = .ok (.aload_n 0, 1) := by decide +kernel
theorem d_LC_hangsTogether_34 : decode prog_3_method_9_code 34 = .ok (.getfield 18, 3) := by decide +kernel
theorem d_LC_hangsTogether_37 : decode prog_3_method_9_code 37 = .ok (.iload_n 2, 1) := by decide +kernel
theorem d_LC_hangsTogether_38 : decode prog_3_method_9_code 38 = .ok (.iload 4, 2) := by decide +kernel
theorem d_LC_hangsTogether_40 : decode prog_3_method_9_code 40 = .ok (.ixor, 1) := by decide +kernel
theorem d_LC_hangsTogether_41 : decode prog_3_method_9_code 41 = .ok (.iaload, 1) := by decide +kernel
theorem d_LC_hangsTogether_42 : decode prog_3_method_9_code 42 = .ok (.ifCond .eq 5, 3) := by decide +kernel
theorem d_LC_hangsTogether_45 : decode prog_3_method_9_code 45 = .ok (.iconst 1, 1) := by decide +kernel
theorem d_LC_hangsTogether_46 : decode prog_3_method_9_code 46 = .ok (.ireturn, 1) := by decide +kernel
theorem d_LC_hangsTogether_47 : decode prog_3_method_9_code 47 = .ok (.iinc 3 1, 3) := by decide +kernel
theorem d_LC_hangsTogether_50 : decode prog_3_method_9_code 50 = .ok (.goto (-48), 3) := by decide +kernel
theorem d_LC_hangsTogether_53 : decode prog_3_method_9_code 53 = .ok (.iconst 0, 1) := by decide +kernel
theorem d_LC_hangsTogether_54 : decode prog_3_method_9_code 54 = .ok (.ireturn, 1) := by decide +kernel
abbrev wd_LC_hangsTogether (cI cJ cG cZ : ClassId) (a0 a1 a0_open a0_clash a0_weight a0_common a0_gain a0_sum a1_near a1_tail a1_head : Nat) (v0_rest : Int32) (v0_versionSeen : Int32) (v0_restSeen : Int32) (n0_weight : Nat) (w0_weight : Nat → Int32) (v1_nodes : Int32) (v1_arcCount : Int32) (v1_version : Int32) (w1_near : Nat → Int32) : va_W := [(a0, .inr (4, [.ref a0_open, .ref a0_clash, .ref a0_weight, .ref a0_common, .ref a0_gain, .ref a0_sum, .int v0_rest, .int v0_versionSeen, .int v0_restSeen])), (a0_weight, .inl (cI, n0_weight, .inl w0_weight)), (a1, .inr (1, [.ref a1_near, .ref a1_tail, .ref a1_head, .int v1_nodes, .int v1_arcCount, .int v1_version])), (a1_near, .inl (cI, 12, .inl w1_near))]
abbrev us_LC_hangsTogether : List Cond := .code y_LC_hangsTogether prog_3_method_9_code 5 (some .boolean) :: gtbl
abbrev rm_LC_hangsTogether : Room := { frames := 0, cells := 0, slots := 0, locals := 0 }
def m_LC_hangsTogether (F : Nat) (v0_rest : Int32) (v0_versionSeen : Int32) (v0_restSeen : Int32) (n0_weight : Nat) (w0_weight : Nat → Int32) (v1_nodes : Int32) (v1_arcCount : Int32) (v1_version : Int32) (w1_near : Nat → Int32) (p2 : Int32) : Option (Int32) :=
  gL (fun (k_2 : Int32 → Option (Int32)) (x3_1 : Int32) =>
  if v1_nodes ≤ x3_1 then (
    some 0
  ) else (
    gB ((1 : Int32) <<< (x3_1 &&& 31)) (fun x4_3 =>
    if (p2 &&& x4_3) = 0 then (
      gB (x3_1 + 1) (fun x3_5 =>
      k_2 x3_5)
    ) else (
      gC (inb x3_1 12) (
      if ((w1_near x3_1.toNatClampNeg) &&& p2) = 0 then (
        gB (x3_1 + 1) (fun x3_8 =>
        k_2 x3_8)
      ) else (
        gC (inb (p2 ^^^ x4_3) n0_weight) (
        if (w0_weight (p2 ^^^ x4_3).toNatClampNeg) = 0 then (
          gB (x3_1 + 1) (fun x3_11 =>
          k_2 x3_11)
        ) else (
          some 1
        ))
      ))
    ))
  )
  ) F 0
set_option maxHeartbeats 4000000 in
set_option maxRecDepth 100000 in
theorem c_LC_hangsTogether (l : Launch) (dC : Nat → ClassId) (dI : Nat → Nat → Nat) (cI cJ cG cZ : ClassId) (a0 a1 a0_open a0_clash a0_weight a0_common a0_gain a0_sum a1_near a1_tail a1_head : Nat) (sz : Nat) (F : Nat) (v0_rest : Int32) (v0_versionSeen : Int32) (v0_restSeen : Int32) (n0_weight : Nat) (w0_weight : Nat → Int32) (v1_nodes : Int32) (v1_arcCount : Int32) (v1_version : Int32) (w1_near : Nat → Int32) (p2 : Int32) (ret : Int32) (hm : m_LC_hangsTogether F v0_rest v0_versionSeen v0_restSeen n0_weight w0_weight v1_nodes v1_arcCount v1_version w1_near p2 = some ret) : Met l y_LC_hangsTogether us_LC_hangsTogether rm_LC_hangsTogether (PcS (dC, dI) (tyL cI cJ cG cZ) [.ref a0, .ref a1, .int p2] sz (wd_LC_hangsTogether cI cJ cG cZ a0 a1 a0_open a0_clash a0_weight a0_common a0_gain a0_sum a1_near a1_tail a1_head v0_rest v0_versionSeen v0_restSeen n0_weight w0_weight v1_nodes v1_arcCount v1_version w1_near)) (va_Qi (fun (r : Int32) (_ : Unit) => ret = r ∧ bz r) (fun _ t => PoS (dC, dI) (tyL cI cJ cG cZ) (wd_LC_hangsTogether cI cJ cG cZ a0 a1 a0_open a0_clash a0_weight a0_common a0_gain a0_sum a1_near a1_tail a1_head v0_rest v0_versionSeen v0_restSeen n0_weight w0_weight v1_nodes v1_arcCount v1_version w1_near) (va_A (wd_LC_hangsTogether cI cJ cG cZ a0 a1 a0_open a0_clash a0_weight a0_common a0_gain a0_sum a1_near a1_tail a1_head v0_rest v0_versionSeen v0_restSeen n0_weight w0_weight v1_nodes v1_arcCount v1_version w1_near) sz) t) (va_A (wd_LC_hangsTogether cI cJ cG cZ a0 a1 a0_open a0_clash a0_weight a0_common a0_gain a0_sum a1_near a1_tail a1_head v0_rest v0_versionSeen v0_restSeen n0_weight w0_weight v1_nodes v1_arcCount v1_version w1_near) sz)) 0 0 (va_A (wd_LC_hangsTogether cI cJ cG cZ a0 a1 a0_open a0_clash a0_weight a0_common a0_gain a0_sum a1_near a1_tail a1_head v0_rest v0_versionSeen v0_restSeen n0_weight w0_weight v1_nodes v1_arcCount v1_version w1_near) sz) := by
  refine Met.ofW (cc := prog_3_method_9_code) (maxL := 5) (ret := (some .boolean)) (by decide) rfl ?_
  intro p e s m args below meth c s₁ B hml hv
  obtain ⟨rfl, hsz, hP, hK, hD0, hNw⟩ := hv
  have hx := B.exec
  have hb := B.bytes
  have hr := B.returns
  have htt : ∀ w ∈ gtbl, w.before _ s = true := fun w h => atoms_spec (ws := us_LC_hangsTogether) B.pre w (List.mem_cons_of_mem _ h)
  have hown : s.vm.findClass R_LC = some m.cls := findClass_of_methodNamed B.named
  have hlocks := B.notSynchronized
  subst hsz
  have hD := hD0.self (sz := s.heap.size)
  generalize hAe : va_A (wd_LC_hangsTogether cI cJ cG cZ a0 a1 a0_open a0_clash a0_weight a0_common a0_gain a0_sum a1_near a1_tail a1_head v0_rest v0_versionSeen v0_restSeen n0_weight w0_weight v1_nodes v1_arcCount v1_version w1_near) s.heap.size = A at hD ⊢
  have hA : ∀ q : Nat, s.heap.size ≤ q → A q := fun q h => by rw [← hAe]; exact Or.inr h
  clear hAe hD0
  have hS : va_S A s.heap s.heap [] := va_S.rf
  have hl := lv_entry ([.ref a0, .ref a1, .int p2]) (n := 5) (Nat.le_of_ble_eq_true rfl)
  rw [lg_entry_eq]
  generalize (lg_sl ([.ref a0, .ref a1, .int p2]) ++ List.replicate (5 - (lg_sl ([.ref a0, .ref a1, .int p2])).length) Slot.unset).toArray = ls at hl ⊢
  have hl : lv_has ls 5 [(0, .ref a0), (1, .ref a1), (2, .int p2)] := hl
  generalize hH : s.heap = H at hP ⊢
  have hS : va_S A s.heap H [] := hH ▸ hS
  generalize hLo : ([] : List Loc) = locs at hS ⊢
  clear hH hLo
  unfold m_LC_hangsTogether at hm
  refine lv_iconst (v := 0) hx hb d_LC_hangsTogether_0 (by decide) ?_
  refine lv_istore_n (lv' := [(3, .int 0), (0, .ref a0), (1, .ref a1), (2, .int p2)]) hx hb d_LC_hangsTogether_1 rfl hl (by decide) rfl (fun ls hl => ?_)
  refine gL_e (P := (fun (z_2 : Int32) => ∀ (x3_1 : Int32), x3_1 = z_2 → ∀ (ls : Array Slot) (H : Heap) (locs : List Loc), lv_has ls 5 [(0, .ref a0), (1, .ref a1), (2, .int p2), (3, .int x3_1)] → va_P (dC, dI) vwCl (wd_LC_hangsTogether cI cJ cG cZ a0 a1 a0_open a0_clash a0_weight a0_common a0_gain a0_sum a1_near a1_tail a1_head v0_rest v0_versionSeen v0_restSeen n0_weight w0_weight v1_nodes v1_arcCount v1_version w1_near) H → va_D A (wd_LC_hangsTogether cI cJ cG cZ a0 a1 a0_open a0_clash a0_weight a0_common a0_gain a0_sum a1_near a1_tail a1_head v0_rest v0_versionSeen v0_restSeen n0_weight w0_weight v1_nodes v1_arcCount v1_version w1_near) → va_S A s.heap H locs → W p l e (headSpec us_LC_hangsTogether rm_LC_hangsTogether).room s m ([.ref a0, .ref a1, .int p2] : List Value).toArray below meth c H locs 0 0 (MQ below (va_Qi (fun (r : Int32) (_ : Unit) => ret = r ∧ bz r) (fun _ t => PoS (dC, dI) (tyL cI cJ cG cZ) (wd_LC_hangsTogether cI cJ cG cZ a0 a1 a0_open a0_clash a0_weight a0_common a0_gain a0_sum a1_near a1_tail a1_head v0_rest v0_versionSeen v0_restSeen n0_weight w0_weight v1_nodes v1_arcCount v1_version w1_near) A t) A) ([.ref a0, .ref a1, .int p2] : List Value).toArray s 0 0 A) (F0 m 2 ls []))) hm (fun k_2 z_2 ih_2 hm => ?_) _ rfl ls H locs (lv_sub hl [1, 2, 3, 0] rfl) hP hD hS
  intro x3_1 hz ls H locs hl hP hD hS
  subst hz
  refine lv_iload_n hx hb d_LC_hangsTogether_2 rfl (lv_at hl 3 rfl) ?_
  refine lv_aload_n hx hb d_LC_hangsTogether_3 rfl (lv_at hl 1 rfl) ?_
  refine va_get (D := (dC, dI)) (ci := 1) (v := .int v1_nodes) (C := R_Net) (T := T_Net) (N := 6) hx hb htt hin_Net hown hK hP 2 rfl rfl 3 (by decide) (htt _ kt_48) (fun _ h9 => h9) rfl d_LC_hangsTogether_4 ?_
  refine lv_icmp_ge (tgt := 53) hx hb d_LC_hangsTogether_7 (by decide) (fun c_2 => ?_) (fun c_2 => ?_)
  · have hm := ite_t c_2 hm
    refine lv_iconst (v := 0) hx hb d_LC_hangsTogether_53 (by decide) ?_
    cases hm
    exact W.zret (ty := .boolean) hx hb hr (bz_nar (by decide : bz 0)) (fun t ht hW => ⟨⟨_, (), rfl, ⟨rfl, (by decide : bz 0)⟩, by rw [ht]; exact hP, va_K.moved hW.alike hK, hD⟩, hS.F ht⟩) hS.2.2 d_LC_hangsTogether_54
  · have hm := ite_f c_2 hm
    refine lv_iconst (v := 1) hx hb d_LC_hangsTogether_10 (by decide) ?_
    refine lv_iload_n hx hb d_LC_hangsTogether_11 rfl (lv_at hl 3 rfl) ?_
    refine lv_ishl hx hb d_LC_hangsTogether_12 ?_
    refine lv_topi (fun x4_3 ex4_3 => ?_)
    have hm := gB_at ex4_3 hm
    refine lv_istore (lv' := [(4, .int x4_3), (0, .ref a0), (1, .ref a1), (2, .int p2), (3, .int x3_1)]) hx hb d_LC_hangsTogether_13 hl (by decide) rfl (fun ls hl => ?_)
    refine lv_iload_n hx hb d_LC_hangsTogether_15 rfl (lv_at hl 3 rfl) ?_
    refine lv_iload hx hb d_LC_hangsTogether_16 (lv_at hl 0 rfl) ?_
    refine lv_iand hx hb d_LC_hangsTogether_18 ?_
    refine lv_if_eq (tgt := 47) hx hb d_LC_hangsTogether_19 (by decide) (fun c_4 => ?_) (fun c_4 => ?_)
    · have hm := ite_t c_4 hm
      obtain ⟨x3_5, ex3_5⟩ : ∃ y : Int32, y = x3_1 + 1 := ⟨_, rfl⟩
      have hm := gB_at ex3_5 hm
      refine lv_iinc (v := x3_5) (lv' := [(3, .int x3_5), (4, .int x4_3), (0, .ref a0), (1, .ref a1), (2, .int p2)]) hx hb d_LC_hangsTogether_47 hl (k := 4) rfl (by rw [ex3_5]; rfl) (by decide) rfl (fun ls hl => ?_)
      refine lv_goto (tgt := 2) hx hb d_LC_hangsTogether_50 (by decide) ?_
      exact ih_2 _ hm _ rfl ls H locs (lv_sub hl [2, 3, 4, 0] rfl) hP hD hS
    · have hm := ite_f c_4 hm
      refine lv_aload_n hx hb d_LC_hangsTogether_22 rfl (lv_at hl 2 rfl) ?_
      refine va_get (D := (dC, dI)) (ci := 1) (v := .ref a1_near) (C := R_Net) (T := T_Net) (N := 6) hx hb htt hin_Net hown hK hP 2 rfl rfl 0 (by decide) (htt _ kt_37) (fun _ h9 => h9) rfl d_LC_hangsTogether_23 ?_
      refine lv_iload_n hx hb d_LC_hangsTogether_26 rfl (lv_at hl 4 rfl) ?_
      obtain ⟨hi_6, hm⟩ := gC_e hm
      refine va_iald hx hb hK hP 3 0 rfl rfl (inb_vp hi_6) d_LC_hangsTogether_27 ?_
      refine lv_iload_n hx hb d_LC_hangsTogether_28 rfl (lv_at hl 3 rfl) ?_
      refine lv_iand hx hb d_LC_hangsTogether_29 ?_
      refine lv_if_eq (tgt := 47) hx hb d_LC_hangsTogether_30 (by decide) (fun c_7 => ?_) (fun c_7 => ?_)
      · have hm := ite_t c_7 hm
        obtain ⟨x3_8, ex3_8⟩ : ∃ y : Int32, y = x3_1 + 1 := ⟨_, rfl⟩
        have hm := gB_at ex3_8 hm
        refine lv_iinc (v := x3_8) (lv' := [(3, .int x3_8), (4, .int x4_3), (0, .ref a0), (1, .ref a1), (2, .int p2)]) hx hb d_LC_hangsTogether_47 hl (k := 4) rfl (by rw [ex3_8]; rfl) (by decide) rfl (fun ls hl => ?_)
        refine lv_goto (tgt := 2) hx hb d_LC_hangsTogether_50 (by decide) ?_
        exact ih_2 _ hm _ rfl ls H locs (lv_sub hl [2, 3, 4, 0] rfl) hP hD hS
      · have hm := ite_f c_7 hm
        refine lv_aload_n hx hb d_LC_hangsTogether_33 rfl (lv_at hl 1 rfl) ?_
        refine va_get (D := (dC, dI)) (ci := 4) (v := .ref a0_weight) (C := R_LC) (T := T_LC) (N := 9) hx hb htt hin_LC hown hK hP 0 rfl rfl 2 (by decide) (htt _ kt_148) (fun _ h9 => h9) rfl d_LC_hangsTogether_34 ?_
        refine lv_iload_n hx hb d_LC_hangsTogether_37 rfl (lv_at hl 3 rfl) ?_
        refine lv_iload hx hb d_LC_hangsTogether_38 (lv_at hl 0 rfl) ?_
        refine lv_ixor hx hb d_LC_hangsTogether_40 ?_
        obtain ⟨hi_9, hm⟩ := gC_e hm
        refine va_iald hx hb hK hP 1 0 rfl rfl (inb_vp hi_9) d_LC_hangsTogether_41 ?_
        refine lv_if_eq (tgt := 47) hx hb d_LC_hangsTogether_42 (by decide) (fun c_10 => ?_) (fun c_10 => ?_)
        · have hm := ite_t c_10 hm
          obtain ⟨x3_11, ex3_11⟩ : ∃ y : Int32, y = x3_1 + 1 := ⟨_, rfl⟩
          have hm := gB_at ex3_11 hm
          refine lv_iinc (v := x3_11) (lv' := [(3, .int x3_11), (4, .int x4_3), (0, .ref a0), (1, .ref a1), (2, .int p2)]) hx hb d_LC_hangsTogether_47 hl (k := 4) rfl (by rw [ex3_11]; rfl) (by decide) rfl (fun ls hl => ?_)
          refine lv_goto (tgt := 2) hx hb d_LC_hangsTogether_50 (by decide) ?_
          exact ih_2 _ hm _ rfl ls H locs (lv_sub hl [2, 3, 4, 0] rfl) hP hD hS
        · have hm := ite_f c_10 hm
          refine lv_iconst (v := 1) hx hb d_LC_hangsTogether_45 (by decide) ?_
          cases hm
          exact W.zret (ty := .boolean) hx hb hr (bz_nar (by decide : bz 1)) (fun t ht hW => ⟨⟨_, (), rfl, ⟨rfl, (by decide : bz 1)⟩, by rw [ht]; exact hP, va_K.moved hW.alike hK, hD⟩, hS.F ht⟩) hS.2.2 d_LC_hangsTogether_46
theorem d_LC_weigh_0 : decode prog_3_method_10_code 0 = .ok (.iload_n 1, 1) := by decide +kernel
theorem d_LC_weigh_1 : decode prog_3_method_10_code 1 = .ok (.iload_n 1, 1) := by decide +kernel
theorem d_LC_weigh_2 : decode prog_3_method_10_code 2 = .ok (.iconst 1, 1) := by decide +kernel
theorem d_LC_weigh_3 : decode prog_3_method_10_code 3 = .ok (.isub, 1) := by decide +kernel
theorem d_LC_weigh_4 : decode prog_3_method_10_code 4 = .ok (.iand, 1) := by decide +kernel
theorem d_LC_weigh_5 : decode prog_3_method_10_code 5 = .ok (.istore_n 2, 1) := by decide +kernel
theorem d_LC_weigh_6 : decode prog_3_method_10_code 6 = .ok (.iconst 0, 1) := by decide +kernel
theorem d_LC_weigh_7 : decode prog_3_method_10_code 7 = .ok (.istore_n 3, 1) := by decide +kernel
theorem d_LC_weigh_8 : decode prog_3_method_10_code 8 = .ok (.iload_n 2, 1) := by decide +kernel
theorem d_LC_weigh_9 : decode prog_3_method_10_code 9 = .ok (.istore 4, 2) := by decide +kernel
theorem d_LC_weigh_11 : decode prog_3_method_10_code 11 = .ok (.iconst 1, 1) := by decide +kernel
theorem d_LC_weigh_12 : decode prog_3_method_10_code 12 = .ok (.iload_n 2, 1) := by decide +kernel
theorem d_LC_weigh_13 : decode prog_3_method_10_code 13 = .ok (.invokestatic 82, 3) := by decide +kernel
theorem d_LC_weigh_16 : decode prog_3_method_10_code 16 = .ok (.ishl, 1) := by decide +kernel
theorem d_LC_weigh_17 : decode prog_3_method_10_code 17 = .ok (.istore 5, 2) := by decide +kernel
theorem d_LC_weigh_19 : decode prog_3_method_10_code 19 = .ok (.iconst 0, 1) := by decide +kernel
theorem d_LC_weigh_20 : decode prog_3_method_10_code 20 = .ok (.istore 6, 2) := by decide +kernel
theorem d_LC_weigh_22 : decode prog_3_method_10_code 22 = .ok (.iload 6, 2) := by decide +kernel
theorem d_LC_weigh_24 : decode prog_3_method_10_code 24 = .ok (.iload 5, 2) := by decide +kernel
theorem d_LC_weigh_26 : decode prog_3_method_10_code 26 = .ok (.if_icmp .ge 65, 3) := by decide +kernel
theorem d_LC_weigh_29 : decode prog_3_method_10_code 29 = .ok (.iload 4, 2) := by decide +kernel
theorem d_LC_weigh_31 : decode prog_3_method_10_code 31 = .ok (.ifCond .eq 60, 3) := by decide +kernel
theorem d_LC_weigh_34 : decode prog_3_method_10_code 34 = .ok (.aload_n 0, 1) := by decide +kernel
theorem d_LC_weigh_35 : decode prog_3_method_10_code 35 = .ok (.getfield 15, 3) := by decide +kernel
theorem d_LC_weigh_38 : decode prog_3_method_10_code 38 = .ok (.iload 4, 2) := by decide +kernel
theorem d_LC_weigh_40 : decode prog_3_method_10_code 40 = .ok (.iaload, 1) := by decide +kernel
theorem d_LC_weigh_41 : decode prog_3_method_10_code 41 = .ok (.istore 7, 2) := by decide +kernel
theorem d_LC_weigh_43 : decode prog_3_method_10_code 43 = .ok (.iload 7, 2) := by decide +kernel
theorem d_LC_weigh_45 : decode prog_3_method_10_code 45 = .ok (.ifCond .ne 26, 3) := by decide +kernel
theorem d_LC_weigh_48 : decode prog_3_method_10_code 48 = .ok (.iload_n 3, 1) := by decide +kernel
theorem d_LC_weigh_49 : decode prog_3_method_10_code 49 = .ok (.aload_n 0, 1) := by decide +kernel
theorem d_LC_weigh_50 : decode prog_3_method_10_code 50 = .ok (.getfield 18, 3) := by decide +kernel
theorem d_LC_weigh_53 : decode prog_3_method_10_code 53 = .ok (.iload_n 1, 1) := by decide +kernel
theorem d_LC_weigh_54 : decode prog_3_method_10_code 54 = .ok (.iload 4, 2) := by decide +kernel
theorem d_LC_weigh_56 : decode prog_3_method_10_code 56 = .ok (.ixor, 1) := by decide +kernel
theorem d_LC_weigh_57 : decode prog_3_method_10_code 57 = .ok (.iaload, 1) := by decide +kernel
theorem d_LC_weigh_58 : decode prog_3_method_10_code 58 = .ok (.isub, 1) := by decide +kernel
theorem d_LC_weigh_59 : decode prog_3_method_10_code 59 = .ok (.istore_n 3, 1) := by decide +kernel
theorem d_LC_weigh_60 : decode prog_3_method_10_code 60 = .ok (.iload 4, 2) := by decide +kernel
theorem d_LC_weigh_62 : decode prog_3_method_10_code 62 = .ok (.iconst 1, 1) := by decide +kernel
theorem d_LC_weigh_63 : decode prog_3_method_10_code 63 = .ok (.isub, 1) := by decide +kernel
theorem d_LC_weigh_64 : decode prog_3_method_10_code 64 = .ok (.iload_n 2, 1) := by decide +kernel
theorem d_LC_weigh_65 : decode prog_3_method_10_code 65 = .ok (.iand, 1) := by decide +kernel
theorem d_LC_weigh_66 : decode prog_3_method_10_code 66 = .ok (.istore 4, 2) := by decide +kernel
theorem d_LC_weigh_68 : decode prog_3_method_10_code 68 = .ok (.goto 17, 3) := by decide +kernel
theorem d_LC_weigh_71 : decode prog_3_method_10_code 71 = .ok (.iload 4, 2) := by decide +kernel
theorem d_LC_weigh_73 : decode prog_3_method_10_code 73 = .ok (.iload 7, 2) := by decide +kernel
theorem d_LC_weigh_75 : decode prog_3_method_10_code 75 = .ok (.ixor, 1) := by decide +kernel
theorem d_LC_weigh_76 : decode prog_3_method_10_code 76 = .ok (.iload_n 2, 1) := by decide +kernel
theorem d_LC_weigh_77 : decode prog_3_method_10_code 77 = .ok (.iload 7, 2) := by decide +kernel
theorem d_LC_weigh_79 : decode prog_3_method_10_code 79 = .ok (.iconst 1, 1) := by decide +kernel
theorem d_LC_weigh_80 : decode prog_3_method_10_code 80 = .ok (.isub, 1) := by decide +kernel
theorem d_LC_weigh_81 : decode prog_3_method_10_code 81 = .ok (.iand, 1) := by decide +kernel
theorem d_LC_weigh_82 : decode prog_3_method_10_code 82 = .ok (.ior, 1) := by decide +kernel
theorem d_LC_weigh_83 : decode prog_3_method_10_code 83 = .ok (.istore 4, 2) := by decide +kernel
theorem d_LC_weigh_85 : decode prog_3_method_10_code 85 = .ok (.iinc 6 1, 3) := by decide +kernel
theorem d_LC_weigh_88 : decode prog_3_method_10_code 88 = .ok (.goto (-66), 3) := by decide +kernel
theorem d_LC_weigh_91 : decode prog_3_method_10_code 91 = .ok (.iload_n 3, 1) := by decide +kernel
theorem d_LC_weigh_92 : decode prog_3_method_10_code 92 = .ok (.ireturn, 1) := by decide +kernel
abbrev wd_LC_weigh (cI cJ cG cZ : ClassId) (a0 a0_open a0_clash a0_weight a0_common a0_gain a0_sum : Nat) (v0_rest : Int32) (v0_versionSeen : Int32) (v0_restSeen : Int32) (n0_clash : Nat) (w0_clash : Nat → Int32) (n0_weight : Nat) (w0_weight : Nat → Int32) : va_W := [(a0, .inr (4, [.ref a0_open, .ref a0_clash, .ref a0_weight, .ref a0_common, .ref a0_gain, .ref a0_sum, .int v0_rest, .int v0_versionSeen, .int v0_restSeen])), (a0_clash, .inl (cI, n0_clash, .inl w0_clash)), (a0_weight, .inl (cI, n0_weight, .inl w0_weight))]
abbrev us_LC_weigh : List Cond := .code y_LC_weigh prog_3_method_10_code 8 (some .int) :: gtbl
abbrev rm_LC_weigh : Room := { frames := 1, cells := 0, slots := 0, locals := 20 }
def m_LC_weigh (F : Nat) (v0_rest : Int32) (v0_versionSeen : Int32) (v0_restSeen : Int32) (n0_clash : Nat) (w0_clash : Nat → Int32) (n0_weight : Nat) (w0_weight : Nat → Int32) (p1 : Int32) : Option (Int32) :=
  gB (p1 &&& (p1 - 1)) (fun x2_1 =>
  gB ((1 : Int32) <<< ((bitc x2_1) &&& 31)) (fun x5_2 =>
  gL (fun (k_22 : (Int32 × Int32 × Int32) → Option (Int32)) (z_22 : Int32 × Int32 × Int32) => match z_22 with
  | (x3_3, x4_4, x6_5) =>
  if x5_2 ≤ x6_5 then (
    some x3_3
  ) else (
    if x4_4 = 0 then (
      some x3_3
    ) else (
      gC (inb x4_4 n0_clash) (
      gB (w0_clash x4_4.toNatClampNeg) (fun x7_9 =>
      if x7_9 = 0 then (
        gC (inb (p1 ^^^ x4_4) n0_weight) (
        gB (x3_3 - (w0_weight (p1 ^^^ x4_4).toNatClampNeg)) (fun x3_14 =>
        gB ((x4_4 - 1) &&& x2_1) (fun x4_15 =>
        gB (x6_5 + 1) (fun x6_16 =>
        k_22 (x3_14, x4_15, x6_16)))))
      ) else (
        gB ((x4_4 ^^^ x7_9) ||| (x2_1 &&& (x7_9 - 1))) (fun x4_11 =>
        gB (x6_5 + 1) (fun x6_12 =>
        k_22 (x3_3, x4_11, x6_12)))
      )))
    )
  )
  ) F (0, x2_1, 0)))
set_option maxHeartbeats 4000000 in
set_option maxRecDepth 100000 in
theorem c_LC_weigh (l : Launch) (dC : Nat → ClassId) (dI : Nat → Nat → Nat) (cI cJ cG cZ : ClassId) (a0 a0_open a0_clash a0_weight a0_common a0_gain a0_sum : Nat) (sz : Nat) (F : Nat) (v0_rest : Int32) (v0_versionSeen : Int32) (v0_restSeen : Int32) (n0_clash : Nat) (w0_clash : Nat → Int32) (n0_weight : Nat) (w0_weight : Nat → Int32) (p1 : Int32) (ret : Int32) (hm : m_LC_weigh F v0_rest v0_versionSeen v0_restSeen n0_clash w0_clash n0_weight w0_weight p1 = some ret) : Met l y_LC_weigh us_LC_weigh rm_LC_weigh (PcS (dC, dI) (tyL cI cJ cG cZ) [.ref a0, .int p1] sz (wd_LC_weigh cI cJ cG cZ a0 a0_open a0_clash a0_weight a0_common a0_gain a0_sum v0_rest v0_versionSeen v0_restSeen n0_clash w0_clash n0_weight w0_weight)) (va_Qi (fun (r : Int32) (_ : Unit) => ret = r) (fun _ t => PoS (dC, dI) (tyL cI cJ cG cZ) (wd_LC_weigh cI cJ cG cZ a0 a0_open a0_clash a0_weight a0_common a0_gain a0_sum v0_rest v0_versionSeen v0_restSeen n0_clash w0_clash n0_weight w0_weight) (va_A (wd_LC_weigh cI cJ cG cZ a0 a0_open a0_clash a0_weight a0_common a0_gain a0_sum v0_rest v0_versionSeen v0_restSeen n0_clash w0_clash n0_weight w0_weight) sz) t) (va_A (wd_LC_weigh cI cJ cG cZ a0 a0_open a0_clash a0_weight a0_common a0_gain a0_sum v0_rest v0_versionSeen v0_restSeen n0_clash w0_clash n0_weight w0_weight) sz)) 0 0 (va_A (wd_LC_weigh cI cJ cG cZ a0 a0_open a0_clash a0_weight a0_common a0_gain a0_sum v0_rest v0_versionSeen v0_restSeen n0_clash w0_clash n0_weight w0_weight) sz) := by
  refine Met.ofW (cc := prog_3_method_10_code) (maxL := 8) (ret := (some .int)) (by decide) rfl ?_
  intro p e s m args below meth c s₁ B hml hv
  obtain ⟨rfl, hsz, hP, hK, hD0, hNw⟩ := hv
  have hx := B.exec
  have hb := B.bytes
  have hr := B.returns
  have htt : ∀ w ∈ gtbl, w.before _ s = true := fun w h => atoms_spec (ws := us_LC_weigh) B.pre w (List.mem_cons_of_mem _ h)
  have hown : s.vm.findClass R_LC = some m.cls := findClass_of_methodNamed B.named
  have hlocks := B.notSynchronized
  subst hsz
  have hD := hD0.self (sz := s.heap.size)
  generalize hAe : va_A (wd_LC_weigh cI cJ cG cZ a0 a0_open a0_clash a0_weight a0_common a0_gain a0_sum v0_rest v0_versionSeen v0_restSeen n0_clash w0_clash n0_weight w0_weight) s.heap.size = A at hD ⊢
  have hA : ∀ q : Nat, s.heap.size ≤ q → A q := fun q h => by rw [← hAe]; exact Or.inr h
  clear hAe hD0
  have hS : va_S A s.heap s.heap [] := va_S.rf
  have hl := lv_entry ([.ref a0, .int p1]) (n := 8) (Nat.le_of_ble_eq_true rfl)
  rw [lg_entry_eq]
  generalize (lg_sl ([.ref a0, .int p1]) ++ List.replicate (8 - (lg_sl ([.ref a0, .int p1])).length) Slot.unset).toArray = ls at hl ⊢
  have hl : lv_has ls 8 [(0, .ref a0), (1, .int p1)] := hl
  generalize hH : s.heap = H at hP ⊢
  have hS : va_S A s.heap H [] := hH ▸ hS
  generalize hLo : ([] : List Loc) = locs at hS ⊢
  clear hH hLo
  unfold m_LC_weigh at hm
  refine lv_iload_n hx hb d_LC_weigh_0 rfl (lv_at hl 1 rfl) ?_
  refine lv_iload_n hx hb d_LC_weigh_1 rfl (lv_at hl 1 rfl) ?_
  refine lv_iconst (v := 1) hx hb d_LC_weigh_2 (by decide) ?_
  refine lv_isub hx hb d_LC_weigh_3 ?_
  refine lv_iand hx hb d_LC_weigh_4 ?_
  refine lv_topi (fun x2_1 ex2_1 => ?_)
  have hm := gB_at ex2_1 hm
  refine lv_istore_n (lv' := [(2, .int x2_1), (0, .ref a0), (1, .int p1)]) hx hb d_LC_weigh_5 rfl hl (by decide) rfl (fun ls hl => ?_)
  refine lv_iconst (v := 0) hx hb d_LC_weigh_6 (by decide) ?_
  refine lv_istore_n (lv' := [(3, .int 0), (2, .int x2_1), (0, .ref a0), (1, .int p1)]) hx hb d_LC_weigh_7 rfl hl (by decide) rfl (fun ls hl => ?_)
  refine lv_iload_n hx hb d_LC_weigh_8 rfl (lv_at hl 1 rfl) ?_
  refine lv_istore (lv' := [(4, .int x2_1), (3, .int 0), (2, .int x2_1), (0, .ref a0), (1, .int p1)]) hx hb d_LC_weigh_9 hl (by decide) rfl (fun ls hl => ?_)
  refine lv_iconst (v := 1) hx hb d_LC_weigh_11 (by decide) ?_
  refine lv_iload_n hx hb d_LC_weigh_12 rfl (lv_at hl 2 rfl) ?_
  refine gx_bit hx hb hml hown htt kt_463 hK hNw hP hD hS hA hl.1 (lv_room (Nat.le_of_ble_eq_true rfl)) (Nat.le_of_ble_eq_true rfl) (Nat.le_of_ble_eq_true rfl) (Nat.zero_le _) (Nat.zero_le _) d_LC_weigh_13 (fun H locs hP hD hS => ?_)
  refine lv_ishl hx hb d_LC_weigh_16 ?_
  refine lv_topi (fun x5_2 ex5_2 => ?_)
  have hm := gB_at ex5_2 hm
  refine lv_istore (lv' := [(5, .int x5_2), (4, .int x2_1), (3, .int 0), (2, .int x2_1), (0, .ref a0), (1, .int p1)]) hx hb d_LC_weigh_17 hl (by decide) rfl (fun ls hl => ?_)
  refine lv_iconst (v := 0) hx hb d_LC_weigh_19 (by decide) ?_
  refine lv_istore (lv' := [(6, .int 0), (5, .int x5_2), (4, .int x2_1), (3, .int 0), (2, .int x2_1), (0, .ref a0), (1, .int p1)]) hx hb d_LC_weigh_20 hl (by decide) rfl (fun ls hl => ?_)
  refine gL_e (P := (fun (z_22 : Int32 × Int32 × Int32) => ∀ (x3_3 : Int32), ∀ (x4_4 : Int32), ∀ (x6_5 : Int32), z_22 = (x3_3, x4_4, x6_5) → ∀ (ls : Array Slot) (H : Heap) (locs : List Loc), lv_has ls 8 [(0, .ref a0), (1, .int p1), (2, .int x2_1), (3, .int x3_3), (4, .int x4_4), (5, .int x5_2), (6, .int x6_5)] → va_P (dC, dI) vwCl (wd_LC_weigh cI cJ cG cZ a0 a0_open a0_clash a0_weight a0_common a0_gain a0_sum v0_rest v0_versionSeen v0_restSeen n0_clash w0_clash n0_weight w0_weight) H → va_D A (wd_LC_weigh cI cJ cG cZ a0 a0_open a0_clash a0_weight a0_common a0_gain a0_sum v0_rest v0_versionSeen v0_restSeen n0_clash w0_clash n0_weight w0_weight) → va_S A s.heap H locs → W p l e (headSpec us_LC_weigh rm_LC_weigh).room s m ([.ref a0, .int p1] : List Value).toArray below meth c H locs 0 0 (MQ below (va_Qi (fun (r : Int32) (_ : Unit) => ret = r) (fun _ t => PoS (dC, dI) (tyL cI cJ cG cZ) (wd_LC_weigh cI cJ cG cZ a0 a0_open a0_clash a0_weight a0_common a0_gain a0_sum v0_rest v0_versionSeen v0_restSeen n0_clash w0_clash n0_weight w0_weight) A t) A) ([.ref a0, .int p1] : List Value).toArray s 0 0 A) (F0 m 22 ls []))) hm (fun k_22 z_22 ih_22 hm => ?_) _ _ _ rfl ls H locs (lv_sub hl [5, 6, 4, 3, 2, 1, 0] rfl) hP hD hS
  intro x3_3 x4_4 x6_5 hz ls H locs hl hP hD hS
  subst hz
  dsimp only at hm
  refine lv_iload hx hb d_LC_weigh_22 (lv_at hl 6 rfl) ?_
  refine lv_iload hx hb d_LC_weigh_24 (lv_at hl 5 rfl) ?_
  refine lv_icmp_ge (tgt := 91) hx hb d_LC_weigh_26 (by decide) (fun c_6 => ?_) (fun c_6 => ?_)
  · have hm := ite_t c_6 hm
    refine lv_iload_n hx hb d_LC_weigh_91 rfl (lv_at hl 3 rfl) ?_
    cases hm
    exact W.iret hx hb hr (fun t ht hW => ⟨⟨_, (), rfl, rfl, by rw [ht]; exact hP, va_K.moved hW.alike hK, hD⟩, hS.F ht⟩) hS.2.2 d_LC_weigh_92
  · have hm := ite_f c_6 hm
    refine lv_iload hx hb d_LC_weigh_29 (lv_at hl 4 rfl) ?_
    refine lv_if_eq (tgt := 91) hx hb d_LC_weigh_31 (by decide) (fun c_7 => ?_) (fun c_7 => ?_)
    · have hm := ite_t c_7 hm
      refine lv_iload_n hx hb d_LC_weigh_91 rfl (lv_at hl 3 rfl) ?_
      cases hm
      exact W.iret hx hb hr (fun t ht hW => ⟨⟨_, (), rfl, rfl, by rw [ht]; exact hP, va_K.moved hW.alike hK, hD⟩, hS.F ht⟩) hS.2.2 d_LC_weigh_92
    · have hm := ite_f c_7 hm
      refine lv_aload_n hx hb d_LC_weigh_34 rfl (lv_at hl 0 rfl) ?_
      refine va_get (D := (dC, dI)) (ci := 4) (v := .ref a0_clash) (C := R_LC) (T := T_LC) (N := 9) hx hb htt hin_LC hown hK hP 0 rfl rfl 1 (by decide) (htt _ kt_147) (fun _ h9 => h9) rfl d_LC_weigh_35 ?_
      refine lv_iload hx hb d_LC_weigh_38 (lv_at hl 4 rfl) ?_
      obtain ⟨hi_8, hm⟩ := gC_e hm
      refine va_iald hx hb hK hP 1 0 rfl rfl (inb_vp hi_8) d_LC_weigh_40 ?_
      refine lv_topi (fun x7_9 ex7_9 => ?_)
      have hm := gB_at ex7_9 hm
      refine lv_istore (lv' := [(7, .int x7_9), (0, .ref a0), (1, .int p1), (2, .int x2_1), (3, .int x3_3), (4, .int x4_4), (5, .int x5_2), (6, .int x6_5)]) hx hb d_LC_weigh_41 hl (by decide) rfl (fun ls hl => ?_)
      refine lv_iload hx hb d_LC_weigh_43 (lv_at hl 0 rfl) ?_
      refine lv_if_ne (tgt := 71) hx hb d_LC_weigh_45 (by decide) (fun c_10 => ?_) (fun c_10 => ?_)
      · have hm := ite_f c_10 hm
        refine lv_iload hx hb d_LC_weigh_71 (lv_at hl 5 rfl) ?_
        refine lv_iload hx hb d_LC_weigh_73 (lv_at hl 0 rfl) ?_
        refine lv_ixor hx hb d_LC_weigh_75 ?_
        refine lv_iload_n hx hb d_LC_weigh_76 rfl (lv_at hl 3 rfl) ?_
        refine lv_iload hx hb d_LC_weigh_77 (lv_at hl 0 rfl) ?_
        refine lv_iconst (v := 1) hx hb d_LC_weigh_79 (by decide) ?_
        refine lv_isub hx hb d_LC_weigh_80 ?_
        refine lv_iand hx hb d_LC_weigh_81 ?_
        refine lv_ior hx hb d_LC_weigh_82 ?_
        refine lv_topi (fun x4_11 ex4_11 => ?_)
        have hm := gB_at ex4_11 hm
        refine lv_istore (lv' := [(4, .int x4_11), (7, .int x7_9), (0, .ref a0), (1, .int p1), (2, .int x2_1), (3, .int x3_3), (5, .int x5_2), (6, .int x6_5)]) hx hb d_LC_weigh_83 hl (by decide) rfl (fun ls hl => ?_)
        obtain ⟨x6_12, ex6_12⟩ : ∃ y : Int32, y = x6_5 + 1 := ⟨_, rfl⟩
        have hm := gB_at ex6_12 hm
        refine lv_iinc (v := x6_12) (lv' := [(6, .int x6_12), (4, .int x4_11), (7, .int x7_9), (0, .ref a0), (1, .int p1), (2, .int x2_1), (3, .int x3_3), (5, .int x5_2)]) hx hb d_LC_weigh_85 hl (k := 7) rfl (by rw [ex6_12]; rfl) (by decide) rfl (fun ls hl => ?_)
        refine lv_goto (tgt := 22) hx hb d_LC_weigh_88 (by decide) ?_
        exact ih_22 _ hm _ _ _ rfl ls H locs (lv_sub hl [3, 4, 5, 6, 1, 7, 0] rfl) hP hD hS
      · have hm := ite_t c_10 hm
        refine lv_iload_n hx hb d_LC_weigh_48 rfl (lv_at hl 4 rfl) ?_
        refine lv_aload_n hx hb d_LC_weigh_49 rfl (lv_at hl 1 rfl) ?_
        refine va_get (D := (dC, dI)) (ci := 4) (v := .ref a0_weight) (C := R_LC) (T := T_LC) (N := 9) hx hb htt hin_LC hown hK hP 0 rfl rfl 2 (by decide) (htt _ kt_148) (fun _ h9 => h9) rfl d_LC_weigh_50 ?_
        refine lv_iload_n hx hb d_LC_weigh_53 rfl (lv_at hl 2 rfl) ?_
        refine lv_iload hx hb d_LC_weigh_54 (lv_at hl 5 rfl) ?_
        refine lv_ixor hx hb d_LC_weigh_56 ?_
        obtain ⟨hi_13, hm⟩ := gC_e hm
        refine va_iald hx hb hK hP 2 0 rfl rfl (inb_vp hi_13) d_LC_weigh_57 ?_
        refine lv_isub hx hb d_LC_weigh_58 ?_
        refine lv_topi (fun x3_14 ex3_14 => ?_)
        have hm := gB_at ex3_14 hm
        refine lv_istore_n (lv' := [(3, .int x3_14), (7, .int x7_9), (0, .ref a0), (1, .int p1), (2, .int x2_1), (4, .int x4_4), (5, .int x5_2), (6, .int x6_5)]) hx hb d_LC_weigh_59 rfl hl (by decide) rfl (fun ls hl => ?_)
        refine lv_iload hx hb d_LC_weigh_60 (lv_at hl 5 rfl) ?_
        refine lv_iconst (v := 1) hx hb d_LC_weigh_62 (by decide) ?_
        refine lv_isub hx hb d_LC_weigh_63 ?_
        refine lv_iload_n hx hb d_LC_weigh_64 rfl (lv_at hl 4 rfl) ?_
        refine lv_iand hx hb d_LC_weigh_65 ?_
        refine lv_topi (fun x4_15 ex4_15 => ?_)
        have hm := gB_at ex4_15 hm
        refine lv_istore (lv' := [(4, .int x4_15), (3, .int x3_14), (7, .int x7_9), (0, .ref a0), (1, .int p1), (2, .int x2_1), (5, .int x5_2), (6, .int x6_5)]) hx hb d_LC_weigh_66 hl (by decide) rfl (fun ls hl => ?_)
        refine lv_goto (tgt := 85) hx hb d_LC_weigh_68 (by decide) ?_
        obtain ⟨x6_16, ex6_16⟩ : ∃ y : Int32, y = x6_5 + 1 := ⟨_, rfl⟩
        have hm := gB_at ex6_16 hm
        refine lv_iinc (v := x6_16) (lv' := [(6, .int x6_16), (4, .int x4_15), (3, .int x3_14), (7, .int x7_9), (0, .ref a0), (1, .int p1), (2, .int x2_1), (5, .int x5_2)]) hx hb d_LC_weigh_85 hl (k := 7) rfl (by rw [ex6_16]; rfl) (by decide) rfl (fun ls hl => ?_)
        refine lv_goto (tgt := 22) hx hb d_LC_weigh_88 (by decide) ?_
        exact ih_22 _ hm _ _ _ rfl ls H locs (lv_sub hl [4, 5, 6, 2, 1, 7, 0] rfl) hP hD hS
