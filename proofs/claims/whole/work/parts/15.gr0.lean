theorem d_Gr_forget_0 : decode prog_2_method_2_code 0 = .ok (.aload_n 0, 1) := by decide +kernel
theorem d_Gr_forget_1 : decode prog_2_method_2_code 1 = .ok (.getfield 9, 3) := by decide +kernel
theorem d_Gr_forget_4 : decode prog_2_method_2_code 4 = .ok (.iconst (-1), 1) := by decide +kernel
theorem d_Gr_forget_5 : decode prog_2_method_2_code 5 = .ok (.invokestatic 18, 3) := by decide +kernel
theorem d_Gr_forget_8 : decode prog_2_method_2_code 8 = .ok (.return_, 1) := by decide +kernel
abbrev wd_Gr_forget (cI cJ cG cZ : ClassId) (a0 a0_tints a0_peeled : Nat) (w0_tints : Nat → Int32) : va_W := [(a0, .inr (7, [.ref a0_tints, .ref a0_peeled])), (a0_tints, .inl (cI, 12, .inl w0_tints))]
abbrev us_Gr_forget : List Cond := .code y_Gr_forget prog_2_method_2_code 1 none :: gtbl
abbrev rm_Gr_forget : Room := { frames := 1, cells := 0, slots := 0, locals := 24 }
def m_Gr_forget (F : Nat) (w0_tints : Nat → Int32) : Option ((Nat → Int32)) :=
  some (fillA 12 ((-1) : Int32) w0_tints)
set_option maxHeartbeats 4000000 in
set_option maxRecDepth 100000 in
theorem c_Gr_forget (l : Launch) (dC : Nat → ClassId) (dI : Nat → Nat → Nat) (cI cJ cG cZ : ClassId) (a0 a0_tints a0_peeled : Nat) (sz : Nat) (F : Nat) (w0_tints : Nat → Int32) (o_w0_tints : Nat → Int32) (hm : m_Gr_forget F w0_tints = some o_w0_tints) : Met l y_Gr_forget us_Gr_forget rm_Gr_forget (PcS (dC, dI) (tyL cI cJ cG cZ) [.ref a0] sz (wd_Gr_forget cI cJ cG cZ a0 a0_tints a0_peeled w0_tints)) (va_Qv (fun (_ : Unit) => True) (fun _ t => PoS (dC, dI) (tyL cI cJ cG cZ) (wd_Gr_forget cI cJ cG cZ a0 a0_tints a0_peeled o_w0_tints) (va_A (wd_Gr_forget cI cJ cG cZ a0 a0_tints a0_peeled w0_tints) sz) t) (va_A (wd_Gr_forget cI cJ cG cZ a0 a0_tints a0_peeled w0_tints) sz)) 0 0 (va_A (wd_Gr_forget cI cJ cG cZ a0 a0_tints a0_peeled w0_tints) sz) := by
  refine Met.ofW (cc := prog_2_method_2_code) (maxL := 1) (ret := none) (by decide) rfl ?_
  intro p e s m args below meth c s₁ B hml hv
  obtain ⟨rfl, hsz, hP, hK, hD0, hNw⟩ := hv
  have hx := B.exec
  have hb := B.bytes
  have hr := B.returns
  have htt : ∀ w ∈ gtbl, w.before _ s = true := fun w h => atoms_spec (ws := us_Gr_forget) B.pre w (List.mem_cons_of_mem _ h)
  have hown : s.vm.findClass R_Gr = some m.cls := findClass_of_methodNamed B.named
  have hlocks := B.notSynchronized
  subst hsz
  have hD := hD0.self (sz := s.heap.size)
  generalize hAe : va_A (wd_Gr_forget cI cJ cG cZ a0 a0_tints a0_peeled w0_tints) s.heap.size = A at hD ⊢
  have hA : ∀ q : Nat, s.heap.size ≤ q → A q := fun q h => by rw [← hAe]; exact Or.inr h
  clear hAe hD0
  have hS : va_S A s.heap s.heap [] := va_S.rf
  have hl := lv_entry ([.ref a0]) (n := 1) (Nat.le_of_ble_eq_true rfl)
  rw [lg_entry_eq]
  generalize (lg_sl ([.ref a0]) ++ List.replicate (1 - (lg_sl ([.ref a0])).length) Slot.unset).toArray = ls at hl ⊢
  have hl : lv_has ls 1 [(0, .ref a0)] := hl
  generalize hH : s.heap = H at hP ⊢
  have hS : va_S A s.heap H [] := hH ▸ hS
  generalize hLo : ([] : List Loc) = locs at hS ⊢
  clear hH hLo
  unfold m_Gr_forget at hm
  refine lv_aload_n hx hb d_Gr_forget_0 rfl (lv_at hl 0 rfl) ?_
  refine va_get (D := (dC, dI)) (ci := 7) (v := .ref a0_tints) (C := R_Gr) (T := T_Gr) (N := 2) hx hb htt hin_Gr hown hK hP 0 rfl rfl 0 (by decide) (htt _ kt_215) (fun _ h9 => h9) rfl d_Gr_forget_1 ?_
  refine lv_iconst (v := (-1)) hx hb d_Gr_forget_4 (by decide) ?_
  refine gx_filli hx hb hml hown htt kt_212 hK hNw hP hD hS hA 1 rfl (by decide) hl.1 (lv_room (Nat.le_of_ble_eq_true rfl)) (Nat.le_of_ble_eq_true rfl) (Nat.le_of_ble_eq_true rfl) (Nat.zero_le _) (Nat.zero_le _) d_Gr_forget_5 (fun H locs hP hD hS => ?_)
  have hP : va_P (dC, dI) vwCl (wd_Gr_forget cI cJ cG cZ a0 a0_tints a0_peeled (fillA 12 ((-1) : Int32) w0_tints)) H := hP
  have hD : va_D A (wd_Gr_forget cI cJ cG cZ a0 a0_tints a0_peeled (fillA 12 ((-1) : Int32) w0_tints)) := hD
  cases hm
  exact W.vret hx hb hr (fun t ht hW => ⟨⟨(), rfl, trivial, by rw [ht]; exact hP, va_K.moved hW.alike hK, hD⟩, hS.F ht⟩) hS.2.2 d_Gr_forget_8
theorem d_Gr_peel_0 : decode prog_2_method_7_code 0 = .ok (.aload_n 1, 1) := by decide +kernel
theorem d_Gr_peel_1 : decode prog_2_method_7_code 1 = .ok (.invokevirtual 58, 3) := by decide +kernel
theorem d_Gr_peel_4 : decode prog_2_method_7_code 4 = .ok (.istore_n 2, 1) := by decide +kernel
theorem d_Gr_peel_5 : decode prog_2_method_7_code 5 = .ok (.iconst 0, 1) := by decide +kernel
theorem d_Gr_peel_6 : decode prog_2_method_7_code 6 = .ok (.istore_n 3, 1) := by decide +kernel
theorem d_Gr_peel_7 : decode prog_2_method_7_code 7 = .ok (.iload_n 3, 1) := by decide +kernel
theorem d_Gr_peel_8 : decode prog_2_method_7_code 8 = .ok (.aload_n 1, 1) := by decide +kernel
theorem d_Gr_peel_9 : decode prog_2_method_7_code 9 = .ok (.getfield 28, 3) := by decide +kernel
theorem d_Gr_peel_12 : decode prog_2_method_7_code 12 = .ok (.if_icmp .ge 90, 3) := by decide +kernel
theorem d_Gr_peel_15 : decode prog_2_method_7_code 15 = .ok (.iconst 0, 1) := by decide +kernel
theorem d_Gr_peel_16 : decode prog_2_method_7_code 16 = .ok (.istore 4, 2) := by decide +kernel
theorem d_Gr_peel_18 : decode prog_2_method_7_code 18 = .ok (.bipush 12, 2) := by decide +kernel
theorem d_Gr_peel_20 : decode prog_2_method_7_code 20 = .ok (.istore 5, 2) := by decide +kernel
theorem d_Gr_peel_22 : decode prog_2_method_7_code 22 = .ok (.aload_n 1, 1) := by decide +kernel
theorem d_Gr_peel_23 : decode prog_2_method_7_code 23 = .ok (.getfield 28, 3) := by decide +kernel
theorem d_Gr_peel_26 : decode prog_2_method_7_code 26 = .ok (.iconst 1, 1) := by decide +kernel
theorem d_Gr_peel_27 : decode prog_2_method_7_code 27 = .ok (.isub, 1) := by decide +kernel
theorem d_Gr_peel_28 : decode prog_2_method_7_code 28 = .ok (.istore 6, 2) := by decide +kernel
theorem d_Gr_peel_30 : decode prog_2_method_7_code 30 = .ok (.iload 6, 2) := by decide +kernel
theorem d_Gr_peel_32 : decode prog_2_method_7_code 32 = .ok (.ifCond .lt 47, 3) := by decide +kernel
theorem d_Gr_peel_35 : decode prog_2_method_7_code 35 = .ok (.aload_n 1, 1) := by decide +kernel
theorem d_Gr_peel_36 : decode prog_2_method_7_code 36 = .ok (.getfield 55, 3) := by decide +kernel
theorem d_Gr_peel_39 : decode prog_2_method_7_code 39 = .ok (.iload 6, 2) := by decide +kernel
theorem d_Gr_peel_41 : decode prog_2_method_7_code 41 = .ok (.iaload, 1) := by decide +kernel
theorem d_Gr_peel_42 : decode prog_2_method_7_code 42 = .ok (.iload_n 2, 1) := by decide +kernel
theorem d_Gr_peel_43 : decode prog_2_method_7_code 43 = .ok (.iand, 1) := by decide +kernel
theorem d_Gr_peel_44 : decode prog_2_method_7_code 44 = .ok (.invokestatic 46, 3) := by decide +kernel
theorem d_Gr_peel_47 : decode prog_2_method_7_code 47 = .ok (.istore 7, 2) := by decide +kernel
theorem d_Gr_peel_49 : decode prog_2_method_7_code 49 = .ok (.iload_n 2, 1) := by decide +kernel
theorem d_Gr_peel_50 : decode prog_2_method_7_code 50 = .ok (.iload 6, 2) := by decide +kernel
theorem d_Gr_peel_52 : decode prog_2_method_7_code 52 = .ok (.ishr, 1) := by decide +kernel
theorem d_Gr_peel_53 : decode prog_2_method_7_code 53 = .ok (.iconst 1, 1) := by decide +kernel
theorem d_Gr_peel_54 : decode prog_2_method_7_code 54 = .ok (.iand, 1) := by decide +kernel
theorem d_Gr_peel_55 : decode prog_2_method_7_code 55 = .ok (.ifCond .eq 18, 3) := by decide +kernel
theorem d_Gr_peel_58 : decode prog_2_method_7_code 58 = .ok (.iload 7, 2) := by decide +kernel
theorem d_Gr_peel_60 : decode prog_2_method_7_code 60 = .ok (.iload 5, 2) := by decide +kernel
theorem d_Gr_peel_62 : decode prog_2_method_7_code 62 = .ok (.if_icmp .ge 11, 3) := by decide +kernel
theorem d_Gr_peel_65 : decode prog_2_method_7_code 65 = .ok (.iload 6, 2) := by decide +kernel
theorem d_Gr_peel_67 : decode prog_2_method_7_code 67 = .ok (.istore 4, 2) := by decide +kernel
theorem d_Gr_peel_69 : decode prog_2_method_7_code 69 = .ok (.iload 7, 2) := by decide +kernel
theorem d_Gr_peel_71 : decode prog_2_method_7_code 71 = .ok (.istore 5, 2) := by decide +kernel
theorem d_Gr_peel_73 : decode prog_2_method_7_code 73 = .ok (.iinc 6 (-1), 3) := by decide +kernel
theorem d_Gr_peel_76 : decode prog_2_method_7_code 76 = .ok (.goto (-46), 3) := by decide +kernel
theorem d_Gr_peel_79 : decode prog_2_method_7_code 79 = .ok (.aload_n 0, 1) := by decide +kernel
theorem d_Gr_peel_80 : decode prog_2_method_7_code 80 = .ok (.getfield 15, 3) := by decide +kernel
theorem d_Gr_peel_83 : decode prog_2_method_7_code 83 = .ok (.iload_n 3, 1) := by decide +kernel
theorem d_Gr_peel_84 : decode prog_2_method_7_code 84 = .ok (.iload 4, 2) := by decide +kernel
theorem d_Gr_peel_86 : decode prog_2_method_7_code 86 = .ok (.iastore, 1) := by decide +kernel
theorem d_Gr_peel_87 : decode prog_2_method_7_code 87 = .ok (.iload_n 2, 1) := by decide +kernel
theorem d_Gr_peel_88 : decode prog_2_method_7_code 88 = .ok (.iconst 1, 1) := by decide +kernel
theorem d_Gr_peel_89 : decode prog_2_method_7_code 89 = .ok (.iload 4, 2) := by decide +kernel
theorem d_Gr_peel_91 : decode prog_2_method_7_code 91 = .ok (.ishl, 1) := by decide +kernel
theorem d_Gr_peel_92 : decode prog_2_method_7_code 92 = .ok (.iconst (-1), 1) := by decide +kernel
theorem d_Gr_peel_93 : decode prog_2_method_7_code 93 = .ok (.ixor, 1) := by decide +kernel
theorem d_Gr_peel_94 : decode prog_2_method_7_code 94 = .ok (.iand, 1) := by decide +kernel
theorem d_Gr_peel_95 : decode prog_2_method_7_code 95 = .ok (.istore_n 2, 1) := by decide +kernel
theorem d_Gr_peel_96 : decode prog_2_method_7_code 96 = .ok (.iinc 3 1, 3) := by decide +kernel
theorem d_Gr_peel_99 : decode prog_2_method_7_code 99 = .ok (.goto (-92), 3) := by decide +kernel
theorem d_Gr_peel_102 : decode prog_2_method_7_code 102 = .ok (.return_, 1) := by decide +kernel
abbrev wd_Gr_peel (cI cJ cG cZ : ClassId) (a0 a1 a0_tints a0_peeled a1_near a1_tail a1_head : Nat) (w0_peeled : Nat → Int32) (v1_nodes : Int32) (v1_arcCount : Int32) (v1_version : Int32) (w1_near : Nat → Int32) : va_W := [(a0, .inr (7, [.ref a0_tints, .ref a0_peeled])), (a0_peeled, .inl (cI, 12, .inl w0_peeled)), (a1, .inr (1, [.ref a1_near, .ref a1_tail, .ref a1_head, .int v1_nodes, .int v1_arcCount, .int v1_version])), (a1_near, .inl (cI, 12, .inl w1_near))]
abbrev us_Gr_peel : List Cond := .code y_Gr_peel prog_2_method_7_code 8 none :: gtbl
abbrev rm_Gr_peel : Room := { frames := 1, cells := 0, slots := 0, locals := 20 }
def m_Gr_peel (F : Nat) (w0_peeled : Nat → Int32) (v1_nodes : Int32) (v1_arcCount : Int32) (v1_version : Int32) (w1_near : Nat → Int32) : Option ((Nat → Int32)) :=
  gM (m_Net_everyNode F v1_nodes v1_arcCount v1_version) (fun q_1 =>
  gL (fun (k_7 : (Int32 × Int32 × (Nat → Int32)) → Option ((Nat → Int32))) (z_7 : Int32 × Int32 × (Nat → Int32)) => match z_7 with
  | (x2_4, x3_5, w0_peeled_6) =>
  if v1_nodes ≤ x3_5 then (
    some w0_peeled_6
  ) else (
    gB (v1_nodes - 1) (fun x6_8 =>
    gL (fun (k_30 : (Int32 × Int32 × Int32) → Option ((Nat → Int32))) (z_30 : Int32 × Int32 × Int32) => match z_30 with
    | (x4_9, x5_10, x6_11) =>
    if x6_11 < 0 then (
      gC (inb x3_5 12) (
      gB (x2_4 &&& (((1 : Int32) <<< (x4_9 &&& 31)) ^^^ (-1))) (fun x2_14 =>
      gB (x3_5 + 1) (fun x3_15 =>
      k_7 (x2_14, x3_15, upd w0_peeled_6 x3_5.toNatClampNeg x4_9))))
    ) else (
      gC (inb x6_11 12) (
      gB (bitc ((w1_near x6_11.toNatClampNeg) &&& x2_4)) (fun x7_17 =>
      if ((x2_4 >>> (x6_11 &&& 31)) &&& 1) = 0 then (
        gB (x6_11 + (-1)) (fun x6_19 =>
        k_30 (x4_9, x5_10, x6_19))
      ) else (
        if x5_10 ≤ x7_17 then (
          gB (x6_11 + (-1)) (fun x6_21 =>
          k_30 (x4_9, x5_10, x6_21))
        ) else (
          gB (x6_11 + (-1)) (fun x6_22 =>
          k_30 (x6_11, x7_17, x6_22))
        )
      )))
    )
    ) F (0, 12, x6_8))
  )
  ) F (q_1, 0, w0_peeled))
set_option maxHeartbeats 4000000 in
set_option maxRecDepth 100000 in
theorem c_Gr_peel (l : Launch) (dC : Nat → ClassId) (dI : Nat → Nat → Nat) (cI cJ cG cZ : ClassId) (a0 a1 a0_tints a0_peeled a1_near a1_tail a1_head : Nat) (sz : Nat) (F : Nat) (w0_peeled : Nat → Int32) (v1_nodes : Int32) (v1_arcCount : Int32) (v1_version : Int32) (w1_near : Nat → Int32) (o_w0_peeled : Nat → Int32) (hm : m_Gr_peel F w0_peeled v1_nodes v1_arcCount v1_version w1_near = some o_w0_peeled) : Met l y_Gr_peel us_Gr_peel rm_Gr_peel (PcS (dC, dI) (tyL cI cJ cG cZ) [.ref a0, .ref a1] sz (wd_Gr_peel cI cJ cG cZ a0 a1 a0_tints a0_peeled a1_near a1_tail a1_head w0_peeled v1_nodes v1_arcCount v1_version w1_near)) (va_Qv (fun (_ : Unit) => True) (fun _ t => PoS (dC, dI) (tyL cI cJ cG cZ) (wd_Gr_peel cI cJ cG cZ a0 a1 a0_tints a0_peeled a1_near a1_tail a1_head o_w0_peeled v1_nodes v1_arcCount v1_version w1_near) (va_A (wd_Gr_peel cI cJ cG cZ a0 a1 a0_tints a0_peeled a1_near a1_tail a1_head w0_peeled v1_nodes v1_arcCount v1_version w1_near) sz) t) (va_A (wd_Gr_peel cI cJ cG cZ a0 a1 a0_tints a0_peeled a1_near a1_tail a1_head w0_peeled v1_nodes v1_arcCount v1_version w1_near) sz)) 0 0 (va_A (wd_Gr_peel cI cJ cG cZ a0 a1 a0_tints a0_peeled a1_near a1_tail a1_head w0_peeled v1_nodes v1_arcCount v1_version w1_near) sz) := by
  refine Met.ofW (cc := prog_2_method_7_code) (maxL := 8) (ret := none) (by decide) rfl ?_
  intro p e s m args below meth c s₁ B hml hv
  obtain ⟨rfl, hsz, hP, hK, hD0, hNw⟩ := hv
  have hx := B.exec
  have hb := B.bytes
  have hr := B.returns
  have htt : ∀ w ∈ gtbl, w.before _ s = true := fun w h => atoms_spec (ws := us_Gr_peel) B.pre w (List.mem_cons_of_mem _ h)
  have hown : s.vm.findClass R_Gr = some m.cls := findClass_of_methodNamed B.named
  have hlocks := B.notSynchronized
  subst hsz
  have hD := hD0.self (sz := s.heap.size)
  generalize hAe : va_A (wd_Gr_peel cI cJ cG cZ a0 a1 a0_tints a0_peeled a1_near a1_tail a1_head w0_peeled v1_nodes v1_arcCount v1_version w1_near) s.heap.size = A at hD ⊢
  have hA : ∀ q : Nat, s.heap.size ≤ q → A q := fun q h => by rw [← hAe]; exact Or.inr h
  clear hAe hD0
  have hS : va_S A s.heap s.heap [] := va_S.rf
  have hl := lv_entry ([.ref a0, .ref a1]) (n := 8) (Nat.le_of_ble_eq_true rfl)
  rw [lg_entry_eq]
  generalize (lg_sl ([.ref a0, .ref a1]) ++ List.replicate (8 - (lg_sl ([.ref a0, .ref a1])).length) Slot.unset).toArray = ls at hl ⊢
  have hl : lv_has ls 8 [(0, .ref a0), (1, .ref a1)] := hl
  generalize hH : s.heap = H at hP ⊢
  have hS : va_S A s.heap H [] := hH ▸ hS
  generalize hLo : ([] : List Loc) = locs at hS ⊢
  clear hH hLo
  unfold m_Gr_peel at hm
  refine lv_aload_n hx hb d_Gr_peel_0 rfl (lv_at hl 1 rfl) ?_
  obtain ⟨q_1, hc_2, hm⟩ := gM_e hm
  have hPc : va_P (dC, dI) vwCl (wd_Net_everyNode cI cJ cG cZ a1 a1_near a1_tail a1_head v1_nodes v1_arcCount v1_version) H := hP.sub [2] rfl
  have hDc : va_D A (wd_Net_everyNode cI cJ cG cZ a1 a1_near a1_tail a1_head v1_nodes v1_arcCount v1_version) := hD.sub [2] (by decide) rfl
  have hFc : ∀ q, va_A (wd_Net_everyNode cI cJ cG cZ a1 a1_near a1_tail a1_head v1_nodes v1_arcCount v1_version) H.size q → A q := va_free hD hS hA [2] rfl
  refine va_calli (va_runV (As := []) (rest := []) ⟨hx, hb, hml, hown, htt⟩ (c_Net_everyNode l dC dI cI cJ cG cZ a1 a1_near a1_tail a1_head H.size F v1_nodes v1_arcCount v1_version q_1 hc_2) (cwV 0 htt (gdV kt_591 kt_400 kt_401 kt_2 kt_402) rfl rfl rfl (by decide +kernel) ⟨(Nat.le_of_ble_eq_true rfl), (Nat.le_of_ble_eq_true rfl)⟩) ⟨PcS_blind, va_recv hK hPc (ci := 1) (q0 := 0) rfl rfl, PcS_in hPc hK hDc hNw⟩ rfl rfl hl.1 rfl (lv_room (Nat.le_of_ble_eq_true rfl)) d_Gr_peel_1 ⟨Nat.zero_le _, Nat.zero_le _⟩) hS (fun q _ h => hFc q h) hFc (fun r_3 u t H1 locs ht hvm hw hB hz1 hk1 hS => ?_)
  obtain ⟨hP1, hK1, hD1⟩ := hB
  rw [ht] at hP1
  subst hw
  obtain ⟨hP, hD⟩ := va_join (wr := [(a0, .inr (7, [.ref a0_tints, .ref a0_peeled])), (a0_peeled, .inl (cI, 12, .inl w0_peeled)), (a1_near, .inl (cI, 12, .inl w1_near))]) (w1 := (wd_Net_everyNode cI cJ cG cZ a1 a1_near a1_tail a1_head v1_nodes v1_arcCount v1_version)) hP hD [2] [0, 1, 3] rfl rfl (by decide) (by decide) hk1 hFc hP1 hD1
  have hP : va_P (dC, dI) vwCl (wd_Gr_peel cI cJ cG cZ a0 a1 a0_tints a0_peeled a1_near a1_tail a1_head w0_peeled v1_nodes v1_arcCount v1_version w1_near) H1 := hP.sub [0, 1, 3, 2] rfl
  have hD : va_D A (wd_Gr_peel cI cJ cG cZ a0 a1 a0_tints a0_peeled a1_near a1_tail a1_head w0_peeled v1_nodes v1_arcCount v1_version w1_near) := hD.sub [0, 1, 3, 2] (by decide) rfl
  clear hP1 hK1 hD1 hk1 hPc hDc hFc ht hvm hz1
  generalize H1 = H at hP hS ⊢
  refine lv_istore_n (lv' := [(2, .int q_1), (0, .ref a0), (1, .ref a1)]) hx hb d_Gr_peel_4 rfl hl (by decide) rfl (fun ls hl => ?_)
  refine lv_iconst (v := 0) hx hb d_Gr_peel_5 (by decide) ?_
  refine lv_istore_n (lv' := [(3, .int 0), (2, .int q_1), (0, .ref a0), (1, .ref a1)]) hx hb d_Gr_peel_6 rfl hl (by decide) rfl (fun ls hl => ?_)
  refine gL_e (P := (fun (z_7 : Int32 × Int32 × (Nat → Int32)) => ∀ (x2_4 : Int32), ∀ (x3_5 : Int32), ∀ (w0_peeled_6 : Nat → Int32), z_7 = (x2_4, x3_5, w0_peeled_6) → ∀ (ls : Array Slot) (H : Heap) (locs : List Loc), lv_has ls 8 [(0, .ref a0), (1, .ref a1), (2, .int x2_4), (3, .int x3_5)] → va_P (dC, dI) vwCl (wd_Gr_peel cI cJ cG cZ a0 a1 a0_tints a0_peeled a1_near a1_tail a1_head w0_peeled_6 v1_nodes v1_arcCount v1_version w1_near) H → va_D A (wd_Gr_peel cI cJ cG cZ a0 a1 a0_tints a0_peeled a1_near a1_tail a1_head w0_peeled_6 v1_nodes v1_arcCount v1_version w1_near) → va_S A s.heap H locs → W p l e (headSpec us_Gr_peel rm_Gr_peel).room s m ([.ref a0, .ref a1] : List Value).toArray below meth c H locs 0 0 (MQ below (va_Qv (fun (_ : Unit) => True) (fun _ t => PoS (dC, dI) (tyL cI cJ cG cZ) (wd_Gr_peel cI cJ cG cZ a0 a1 a0_tints a0_peeled a1_near a1_tail a1_head o_w0_peeled v1_nodes v1_arcCount v1_version w1_near) A t) A) ([.ref a0, .ref a1] : List Value).toArray s 0 0 A) (F0 m 7 ls []))) hm (fun k_7 z_7 ih_7 hm => ?_) _ _ _ rfl ls H locs (lv_sub hl [2, 3, 1, 0] rfl) hP hD hS
  intro x2_4 x3_5 w0_peeled_6 hz ls H locs hl hP hD hS
  subst hz
  dsimp only at hm
  refine lv_iload_n hx hb d_Gr_peel_7 rfl (lv_at hl 3 rfl) ?_
  refine lv_aload_n hx hb d_Gr_peel_8 rfl (lv_at hl 1 rfl) ?_
  refine va_get (D := (dC, dI)) (ci := 1) (v := .int v1_nodes) (C := R_Net) (T := T_Net) (N := 6) hx hb htt hin_Net hown hK hP 2 rfl rfl 3 (by decide) (htt _ kt_52) (fun _ h9 => h9) rfl d_Gr_peel_9 ?_
  refine lv_icmp_ge (tgt := 102) hx hb d_Gr_peel_12 (by decide) (fun c_7 => ?_) (fun c_7 => ?_)
  · have hm := ite_t c_7 hm
    cases hm
    exact W.vret hx hb hr (fun t ht hW => ⟨⟨(), rfl, trivial, by rw [ht]; exact hP, va_K.moved hW.alike hK, hD⟩, hS.F ht⟩) hS.2.2 d_Gr_peel_102
  · have hm := ite_f c_7 hm
    refine lv_iconst (v := 0) hx hb d_Gr_peel_15 (by decide) ?_
    refine lv_istore (lv' := [(4, .int 0), (0, .ref a0), (1, .ref a1), (2, .int x2_4), (3, .int x3_5)]) hx hb d_Gr_peel_16 hl (by decide) rfl (fun ls hl => ?_)
    refine lv_bipush (v := 12) hx hb d_Gr_peel_18 (by decide) ?_
    refine lv_istore (lv' := [(5, .int 12), (4, .int 0), (0, .ref a0), (1, .ref a1), (2, .int x2_4), (3, .int x3_5)]) hx hb d_Gr_peel_20 hl (by decide) rfl (fun ls hl => ?_)
    refine lv_aload_n hx hb d_Gr_peel_22 rfl (lv_at hl 3 rfl) ?_
    refine va_get (D := (dC, dI)) (ci := 1) (v := .int v1_nodes) (C := R_Net) (T := T_Net) (N := 6) hx hb htt hin_Net hown hK hP 2 rfl rfl 3 (by decide) (htt _ kt_52) (fun _ h9 => h9) rfl d_Gr_peel_23 ?_
    refine lv_iconst (v := 1) hx hb d_Gr_peel_26 (by decide) ?_
    refine lv_isub hx hb d_Gr_peel_27 ?_
    refine lv_topi (fun x6_8 ex6_8 => ?_)
    have hm := gB_at ex6_8 hm
    refine lv_istore (lv' := [(6, .int x6_8), (5, .int 12), (4, .int 0), (0, .ref a0), (1, .ref a1), (2, .int x2_4), (3, .int x3_5)]) hx hb d_Gr_peel_28 hl (by decide) rfl (fun ls hl => ?_)
    refine gL_e (P := (fun (z_30 : Int32 × Int32 × Int32) => ∀ (x4_9 : Int32), ∀ (x5_10 : Int32), ∀ (x6_11 : Int32), z_30 = (x4_9, x5_10, x6_11) → ∀ (ls : Array Slot) (H : Heap) (locs : List Loc), lv_has ls 8 [(0, .ref a0), (1, .ref a1), (2, .int x2_4), (3, .int x3_5), (4, .int x4_9), (5, .int x5_10), (6, .int x6_11)] → va_P (dC, dI) vwCl (wd_Gr_peel cI cJ cG cZ a0 a1 a0_tints a0_peeled a1_near a1_tail a1_head w0_peeled_6 v1_nodes v1_arcCount v1_version w1_near) H → va_D A (wd_Gr_peel cI cJ cG cZ a0 a1 a0_tints a0_peeled a1_near a1_tail a1_head w0_peeled_6 v1_nodes v1_arcCount v1_version w1_near) → va_S A s.heap H locs → W p l e (headSpec us_Gr_peel rm_Gr_peel).room s m ([.ref a0, .ref a1] : List Value).toArray below meth c H locs 0 0 (MQ below (va_Qv (fun (_ : Unit) => True) (fun _ t => PoS (dC, dI) (tyL cI cJ cG cZ) (wd_Gr_peel cI cJ cG cZ a0 a1 a0_tints a0_peeled a1_near a1_tail a1_head o_w0_peeled v1_nodes v1_arcCount v1_version w1_near) A t) A) ([.ref a0, .ref a1] : List Value).toArray s 0 0 A) (F0 m 30 ls []))) hm (fun k_30 z_30 ih_30 hm => ?_) _ _ _ rfl ls H locs (lv_sub hl [3, 4, 5, 6, 2, 1, 0] rfl) hP hD hS
    intro x4_9 x5_10 x6_11 hz ls H locs hl hP hD hS
    subst hz
    dsimp only at hm
    refine lv_iload hx hb d_Gr_peel_30 (lv_at hl 6 rfl) ?_
    refine lv_if_lt (tgt := 79) hx hb d_Gr_peel_32 (by decide) (fun c_12 => ?_) (fun c_12 => ?_)
    · have hm := ite_t c_12 hm
      refine lv_aload_n hx hb d_Gr_peel_79 rfl (lv_at hl 0 rfl) ?_
      refine va_get (D := (dC, dI)) (ci := 7) (v := .ref a0_peeled) (C := R_Gr) (T := T_Gr) (N := 2) hx hb htt hin_Gr hown hK hP 0 rfl rfl 1 (by decide) (htt _ kt_217) (fun _ h9 => h9) rfl d_Gr_peel_80 ?_
      refine lv_iload_n hx hb d_Gr_peel_83 rfl (lv_at hl 3 rfl) ?_
      refine lv_iload hx hb d_Gr_peel_84 (lv_at hl 4 rfl) ?_
      obtain ⟨hi_13, hm⟩ := gC_e hm
      refine va_iast hx hb hK hP hD hS 1 0 rfl rfl (inb_vp hi_13) d_Gr_peel_86 (fun H locs hP hD hS => ?_)
      have hP : va_P (dC, dI) vwCl (wd_Gr_peel cI cJ cG cZ a0 a1 a0_tints a0_peeled a1_near a1_tail a1_head (upd w0_peeled_6 x3_5.toNatClampNeg x4_9) v1_nodes v1_arcCount v1_version w1_near) H := hP
      have hD : va_D A (wd_Gr_peel cI cJ cG cZ a0 a1 a0_tints a0_peeled a1_near a1_tail a1_head (upd w0_peeled_6 x3_5.toNatClampNeg x4_9) v1_nodes v1_arcCount v1_version w1_near) := hD
      refine lv_iload_n hx hb d_Gr_peel_87 rfl (lv_at hl 2 rfl) ?_
      refine lv_iconst (v := 1) hx hb d_Gr_peel_88 (by decide) ?_
      refine lv_iload hx hb d_Gr_peel_89 (lv_at hl 4 rfl) ?_
      refine lv_ishl hx hb d_Gr_peel_91 ?_
      refine lv_iconst (v := (-1)) hx hb d_Gr_peel_92 (by decide) ?_
      refine lv_ixor hx hb d_Gr_peel_93 ?_
      refine lv_iand hx hb d_Gr_peel_94 ?_
      refine lv_topi (fun x2_14 ex2_14 => ?_)
      have hm := gB_at ex2_14 hm
      refine lv_istore_n (lv' := [(2, .int x2_14), (0, .ref a0), (1, .ref a1), (3, .int x3_5), (4, .int x4_9), (5, .int x5_10), (6, .int x6_11)]) hx hb d_Gr_peel_95 rfl hl (by decide) rfl (fun ls hl => ?_)
      obtain ⟨x3_15, ex3_15⟩ : ∃ y : Int32, y = x3_5 + 1 := ⟨_, rfl⟩
      have hm := gB_at ex3_15 hm
      refine lv_iinc (v := x3_15) (lv' := [(3, .int x3_15), (2, .int x2_14), (0, .ref a0), (1, .ref a1), (4, .int x4_9), (5, .int x5_10), (6, .int x6_11)]) hx hb d_Gr_peel_96 hl (k := 3) rfl (by rw [ex3_15]; rfl) (by decide) rfl (fun ls hl => ?_)
      refine lv_goto (tgt := 7) hx hb d_Gr_peel_99 (by decide) ?_
      exact ih_7 _ hm _ _ _ rfl ls H locs (lv_sub hl [2, 3, 1, 0] rfl) hP hD hS
    · have hm := ite_f c_12 hm
      refine lv_aload_n hx hb d_Gr_peel_35 rfl (lv_at hl 1 rfl) ?_
      refine va_get (D := (dC, dI)) (ci := 1) (v := .ref a1_near) (C := R_Net) (T := T_Net) (N := 6) hx hb htt hin_Net hown hK hP 2 rfl rfl 0 (by decide) (htt _ kt_38) (fun _ h9 => h9) rfl d_Gr_peel_36 ?_
      refine lv_iload hx hb d_Gr_peel_39 (lv_at hl 6 rfl) ?_
      obtain ⟨hi_16, hm⟩ := gC_e hm
      refine va_iald hx hb hK hP 3 0 rfl rfl (inb_vp hi_16) d_Gr_peel_41 ?_
      refine lv_iload_n hx hb d_Gr_peel_42 rfl (lv_at hl 2 rfl) ?_
      refine lv_iand hx hb d_Gr_peel_43 ?_
      refine gx_bit hx hb hml hown htt kt_592 hK hNw hP hD hS hA hl.1 (lv_room (Nat.le_of_ble_eq_true rfl)) (Nat.le_of_ble_eq_true rfl) (Nat.le_of_ble_eq_true rfl) (Nat.zero_le _) (Nat.zero_le _) d_Gr_peel_44 (fun H locs hP hD hS => ?_)
      refine lv_topi (fun x7_17 ex7_17 => ?_)
      have hm := gB_at ex7_17 hm
      refine lv_istore (lv' := [(7, .int x7_17), (0, .ref a0), (1, .ref a1), (2, .int x2_4), (3, .int x3_5), (4, .int x4_9), (5, .int x5_10), (6, .int x6_11)]) hx hb d_Gr_peel_47 hl (by decide) rfl (fun ls hl => ?_)
      refine lv_iload_n hx hb d_Gr_peel_49 rfl (lv_at hl 3 rfl) ?_
      refine lv_iload hx hb d_Gr_peel_50 (lv_at hl 7 rfl) ?_
      refine lv_ishr hx hb d_Gr_peel_52 ?_
      refine lv_iconst (v := 1) hx hb d_Gr_peel_53 (by decide) ?_
      refine lv_iand hx hb d_Gr_peel_54 ?_
      refine lv_if_eq (tgt := 73) hx hb d_Gr_peel_55 (by decide) (fun c_18 => ?_) (fun c_18 => ?_)
      · have hm := ite_t c_18 hm
        obtain ⟨x6_19, ex6_19⟩ : ∃ y : Int32, y = x6_11 + (-1) := ⟨_, rfl⟩
        have hm := gB_at ex6_19 hm
        refine lv_iinc (v := x6_19) (lv' := [(6, .int x6_19), (7, .int x7_17), (0, .ref a0), (1, .ref a1), (2, .int x2_4), (3, .int x3_5), (4, .int x4_9), (5, .int x5_10)]) hx hb d_Gr_peel_73 hl (k := 7) rfl (by rw [ex6_19]; rfl) (by decide) rfl (fun ls hl => ?_)
        refine lv_goto (tgt := 30) hx hb d_Gr_peel_76 (by decide) ?_
        exact ih_30 _ hm _ _ _ rfl ls H locs (lv_sub hl [2, 3, 4, 5, 6, 7, 0] rfl) hP hD hS
      · have hm := ite_f c_18 hm
        refine lv_iload hx hb d_Gr_peel_58 (lv_at hl 0 rfl) ?_
        refine lv_iload hx hb d_Gr_peel_60 (lv_at hl 6 rfl) ?_
        refine lv_icmp_ge (tgt := 73) hx hb d_Gr_peel_62 (by decide) (fun c_20 => ?_) (fun c_20 => ?_)
        · have hm := ite_t c_20 hm
          obtain ⟨x6_21, ex6_21⟩ : ∃ y : Int32, y = x6_11 + (-1) := ⟨_, rfl⟩
          have hm := gB_at ex6_21 hm
          refine lv_iinc (v := x6_21) (lv' := [(6, .int x6_21), (7, .int x7_17), (0, .ref a0), (1, .ref a1), (2, .int x2_4), (3, .int x3_5), (4, .int x4_9), (5, .int x5_10)]) hx hb d_Gr_peel_73 hl (k := 7) rfl (by rw [ex6_21]; rfl) (by decide) rfl (fun ls hl => ?_)
          refine lv_goto (tgt := 30) hx hb d_Gr_peel_76 (by decide) ?_
          exact ih_30 _ hm _ _ _ rfl ls H locs (lv_sub hl [2, 3, 4, 5, 6, 7, 0] rfl) hP hD hS
        · have hm := ite_f c_20 hm
          refine lv_iload hx hb d_Gr_peel_65 (lv_at hl 7 rfl) ?_
          refine lv_istore (lv' := [(4, .int x6_11), (7, .int x7_17), (0, .ref a0), (1, .ref a1), (2, .int x2_4), (3, .int x3_5), (5, .int x5_10), (6, .int x6_11)]) hx hb d_Gr_peel_67 hl (by decide) rfl (fun ls hl => ?_)
          refine lv_iload hx hb d_Gr_peel_69 (lv_at hl 1 rfl) ?_
          refine lv_istore (lv' := [(5, .int x7_17), (4, .int x6_11), (7, .int x7_17), (0, .ref a0), (1, .ref a1), (2, .int x2_4), (3, .int x3_5), (6, .int x6_11)]) hx hb d_Gr_peel_71 hl (by decide) rfl (fun ls hl => ?_)
          obtain ⟨x6_22, ex6_22⟩ : ∃ y : Int32, y = x6_11 + (-1) := ⟨_, rfl⟩
          have hm := gB_at ex6_22 hm
          refine lv_iinc (v := x6_22) (lv' := [(6, .int x6_22), (5, .int x7_17), (4, .int x6_11), (7, .int x7_17), (0, .ref a0), (1, .ref a1), (2, .int x2_4), (3, .int x3_5)]) hx hb d_Gr_peel_73 hl (k := 7) rfl (by rw [ex6_22]; rfl) (by decide) rfl (fun ls hl => ?_)
          refine lv_goto (tgt := 30) hx hb d_Gr_peel_76 (by decide) ?_
          exact ih_30 _ hm _ _ _ rfl ls H locs (lv_sub hl [4, 5, 6, 7, 2, 1, 0] rfl) hP hD hS
theorem d_Gr_coloursNear_0 : decode prog_2_method_6_code 0 = .ok (.iconst 0, 1) := by decide +kernel
theorem d_Gr_coloursNear_1 : decode prog_2_method_6_code 1 = .ok (.istore_n 3, 1) := by decide +kernel
theorem d_Gr_coloursNear_2 : decode prog_2_method_6_code 2 = .ok (.iconst 0, 1) := by decide +kernel
theorem d_Gr_coloursNear_3 : decode prog_2_method_6_code 3 = .ok (.istore 4, 2) := by decide +kernel
theorem d_Gr_coloursNear_5 : decode prog_2_method_6_code 5 = .ok (.iload 4, 2) := by decide +kernel
theorem d_Gr_coloursNear_7 : decode prog_2_method_6_code 7 = .ok (.aload_n 1, 1) := by decide +kernel
theorem d_Gr_coloursNear_8 : decode prog_2_method_6_code 8 = .ok (.getfield 28, 3) := by decide +kernel
theorem d_Gr_coloursNear_11 : decode prog_2_method_6_code 11 = .ok (.if_icmp .ge 46, 3) := by decide +kernel
theorem d_Gr_coloursNear_14 : decode prog_2_method_6_code 14 = .ok (.aload_n 1, 1) := by decide +kernel
theorem d_Gr_coloursNear_15 : decode prog_2_method_6_code 15 = .ok (.getfield 55, 3) := by decide +kernel
theorem d_Gr_coloursNear_18 : decode prog_2_method_6_code 18 = .ok (.iload_n 2, 1) := by decide +kernel
theorem d_Gr_coloursNear_19 : decode prog_2_method_6_code 19 = .ok (.iaload, 1) := by decide +kernel
theorem d_Gr_coloursNear_20 : decode prog_2_method_6_code 20 = .ok (.iload 4, 2) := by decide +kernel
theorem d_Gr_coloursNear_22 : decode prog_2_method_6_code 22 = .ok (.ishr, 1) := by decide +kernel
theorem d_Gr_coloursNear_23 : decode prog_2_method_6_code 23 = .ok (.iconst 1, 1) := by decide +kernel
theorem d_Gr_coloursNear_24 : decode prog_2_method_6_code 24 = .ok (.iand, 1) := by decide +kernel
theorem d_Gr_coloursNear_25 : decode prog_2_method_6_code 25 = .ok (.ifCond .eq 26, 3) := by decide +kernel
theorem d_Gr_coloursNear_28 : decode prog_2_method_6_code 28 = .ok (.aload_n 0, 1) := by decide +kernel
theorem d_Gr_coloursNear_29 : decode prog_2_method_6_code 29 = .ok (.getfield 9, 3) := by decide +kernel
theorem d_Gr_coloursNear_32 : decode prog_2_method_6_code 32 = .ok (.iload 4, 2) := by decide +kernel
theorem d_Gr_coloursNear_34 : decode prog_2_method_6_code 34 = .ok (.iaload, 1) := by decide +kernel
theorem d_Gr_coloursNear_35 : decode prog_2_method_6_code 35 = .ok (.iconst (-1), 1) := by decide +kernel
theorem d_Gr_coloursNear_36 : decode prog_2_method_6_code 36 = .ok (.if_icmp .eq 15, 3) := by decide +kernel
theorem d_Gr_coloursNear_39 : decode prog_2_method_6_code 39 = .ok (.iload_n 3, 1) := by decide +kernel
theorem d_Gr_coloursNear_40 : decode prog_2_method_6_code 40 = .ok (.iconst 1, 1) := by decide +kernel
theorem d_Gr_coloursNear_41 : decode prog_2_method_6_code 41 = .ok (.aload_n 0, 1) := by decide +kernel
theorem d_Gr_coloursNear_42 : decode prog_2_method_6_code 42 = .ok (.getfield 9, 3) := by decide +kernel
theorem d_Gr_coloursNear_45 : decode prog_2_method_6_code 45 = .ok (.iload 4, 2) := by decide +kernel
theorem d_Gr_coloursNear_47 : decode prog_2_method_6_code 47 = .ok (.iaload, 1) := by decide +kernel
theorem d_Gr_coloursNear_48 : decode prog_2_method_6_code 48 = .ok (.ishl, 1) := by decide +kernel
theorem d_Gr_coloursNear_49 : decode prog_2_method_6_code 49 = .ok (.ior, 1) := by decide +kernel
theorem d_Gr_coloursNear_50 : decode prog_2_method_6_code 50 = .ok (.istore_n 3, 1) := by decide +kernel
theorem d_Gr_coloursNear_51 : decode prog_2_method_6_code 51 = .ok (.iinc 4 1, 3) := by decide +kernel
theorem d_Gr_coloursNear_54 : decode prog_2_method_6_code 54 = .ok (.goto (-49), 3) := by decide +kernel
theorem d_Gr_coloursNear_57 : decode prog_2_method_6_code 57 = .ok (.iload_n 3, 1) := by decide +kernel
theorem d_Gr_coloursNear_58 : decode prog_2_method_6_code 58 = .ok (.ireturn, 1) := by decide +kernel
abbrev wd_Gr_coloursNear (cI cJ cG cZ : ClassId) (a0 a1 a0_tints a0_peeled a1_near a1_tail a1_head : Nat) (w0_tints : Nat → Int32) (v1_nodes : Int32) (v1_arcCount : Int32) (v1_version : Int32) (w1_near : Nat → Int32) : va_W := [(a0, .inr (7, [.ref a0_tints, .ref a0_peeled])), (a0_tints, .inl (cI, 12, .inl w0_tints)), (a1, .inr (1, [.ref a1_near, .ref a1_tail, .ref a1_head, .int v1_nodes, .int v1_arcCount, .int v1_version])), (a1_near, .inl (cI, 12, .inl w1_near))]
abbrev us_Gr_coloursNear : List Cond := .code y_Gr_coloursNear prog_2_method_6_code 5 (some .int) :: gtbl
abbrev rm_Gr_coloursNear : Room := { frames := 0, cells := 0, slots := 0, locals := 0 }
def m_Gr_coloursNear (F : Nat) (w0_tints : Nat → Int32) (v1_nodes : Int32) (v1_arcCount : Int32) (v1_version : Int32) (w1_near : Nat → Int32) (p2 : Int32) : Option (Int32) :=
  gL (fun (k_5 : (Int32 × Int32) → Option (Int32)) (z_5 : Int32 × Int32) => match z_5 with
  | (x3_1, x4_2) =>
  if v1_nodes ≤ x4_2 then (
    some x3_1
  ) else (
    gC (inb p2 12) (
    if (((w1_near p2.toNatClampNeg) >>> (x4_2 &&& 31)) &&& 1) = 0 then (
      gB (x4_2 + 1) (fun x4_6 =>
      k_5 (x3_1, x4_6))
    ) else (
      gC (inb x4_2 12) (
      if (w0_tints x4_2.toNatClampNeg) = ((-1) : Int32) then (
        gB (x4_2 + 1) (fun x4_9 =>
        k_5 (x3_1, x4_9))
      ) else (
        gC (inb x4_2 12) (
        gB (x3_1 ||| ((1 : Int32) <<< ((w0_tints x4_2.toNatClampNeg) &&& 31))) (fun x3_11 =>
        gB (x4_2 + 1) (fun x4_12 =>
        k_5 (x3_11, x4_12))))
      ))
    ))
  )
  ) F (0, 0)
set_option maxHeartbeats 4000000 in
set_option maxRecDepth 100000 in
theorem c_Gr_coloursNear (l : Launch) (dC : Nat → ClassId) (dI : Nat → Nat → Nat) (cI cJ cG cZ : ClassId) (a0 a1 a0_tints a0_peeled a1_near a1_tail a1_head : Nat) (sz : Nat) (F : Nat) (w0_tints : Nat → Int32) (v1_nodes : Int32) (v1_arcCount : Int32) (v1_version : Int32) (w1_near : Nat → Int32) (p2 : Int32) (ret : Int32) (hm : m_Gr_coloursNear F w0_tints v1_nodes v1_arcCount v1_version w1_near p2 = some ret) : Met l y_Gr_coloursNear us_Gr_coloursNear rm_Gr_coloursNear (PcS (dC, dI) (tyL cI cJ cG cZ) [.ref a0, .ref a1, .int p2] sz (wd_Gr_coloursNear cI cJ cG cZ a0 a1 a0_tints a0_peeled a1_near a1_tail a1_head w0_tints v1_nodes v1_arcCount v1_version w1_near)) (va_Qi (fun (r : Int32) (_ : Unit) => ret = r) (fun _ t => PoS (dC, dI) (tyL cI cJ cG cZ) (wd_Gr_coloursNear cI cJ cG cZ a0 a1 a0_tints a0_peeled a1_near a1_tail a1_head w0_tints v1_nodes v1_arcCount v1_version w1_near) (va_A (wd_Gr_coloursNear cI cJ cG cZ a0 a1 a0_tints a0_peeled a1_near a1_tail a1_head w0_tints v1_nodes v1_arcCount v1_version w1_near) sz) t) (va_A (wd_Gr_coloursNear cI cJ cG cZ a0 a1 a0_tints a0_peeled a1_near a1_tail a1_head w0_tints v1_nodes v1_arcCount v1_version w1_near) sz)) 0 0 (va_A (wd_Gr_coloursNear cI cJ cG cZ a0 a1 a0_tints a0_peeled a1_near a1_tail a1_head w0_tints v1_nodes v1_arcCount v1_version w1_near) sz) := by
  refine Met.ofW (cc := prog_2_method_6_code) (maxL := 5) (ret := (some .int)) (by decide) rfl ?_
  intro p e s m args below meth c s₁ B hml hv
  obtain ⟨rfl, hsz, hP, hK, hD0, hNw⟩ := hv
  have hx := B.exec
  have hb := B.bytes
  have hr := B.returns
  have htt : ∀ w ∈ gtbl, w.before _ s = true := fun w h => atoms_spec (ws := us_Gr_coloursNear) B.pre w (List.mem_cons_of_mem _ h)
  have hown : s.vm.findClass R_Gr = some m.cls := findClass_of_methodNamed B.named
  have hlocks := B.notSynchronized
  subst hsz
  have hD := hD0.self (sz := s.heap.size)
  generalize hAe : va_A (wd_Gr_coloursNear cI cJ cG cZ a0 a1 a0_tints a0_peeled a1_near a1_tail a1_head w0_tints v1_nodes v1_arcCount v1_version w1_near) s.heap.size = A at hD ⊢
  have hA : ∀ q : Nat, s.heap.size ≤ q → A q := fun q h => by rw [← hAe]; exact Or.inr h
  clear hAe hD0
  have hS : va_S A s.heap s.heap [] := va_S.rf
  have hl := lv_entry ([.ref a0, .ref a1, .int p2]) (n := 5) (Nat.le_of_ble_eq_true rfl)
  rw [lg_entry_eq]
  generalize (lg_sl ([.ref a0, .ref a1, .int p2]) ++ List.replicate (5 - (lg_sl ([.ref a0, .ref a1, .int p2])).length) Slot.unset).toArray = ls at hl ⊢
  have hl : lv_has ls 5 [(0, .ref a0), (1, .ref a1), (2, .int p2)] := hl
  generalize hH : s.heap = H at hP ⊢
  have hS : va_S A s.heap H [] := hH ▸ hS
  generalize hLo : ([] : List Loc) = locs at hS ⊢
  clear hH hLo
  unfold m_Gr_coloursNear at hm
  refine lv_iconst (v := 0) hx hb d_Gr_coloursNear_0 (by decide) ?_
  refine lv_istore_n (lv' := [(3, .int 0), (0, .ref a0), (1, .ref a1), (2, .int p2)]) hx hb d_Gr_coloursNear_1 rfl hl (by decide) rfl (fun ls hl => ?_)
  refine lv_iconst (v := 0) hx hb d_Gr_coloursNear_2 (by decide) ?_
  refine lv_istore (lv' := [(4, .int 0), (3, .int 0), (0, .ref a0), (1, .ref a1), (2, .int p2)]) hx hb d_Gr_coloursNear_3 hl (by decide) rfl (fun ls hl => ?_)
  refine gL_e (P := (fun (z_5 : Int32 × Int32) => ∀ (x3_1 : Int32), ∀ (x4_2 : Int32), z_5 = (x3_1, x4_2) → ∀ (ls : Array Slot) (H : Heap) (locs : List Loc), lv_has ls 5 [(0, .ref a0), (1, .ref a1), (2, .int p2), (3, .int x3_1), (4, .int x4_2)] → va_P (dC, dI) vwCl (wd_Gr_coloursNear cI cJ cG cZ a0 a1 a0_tints a0_peeled a1_near a1_tail a1_head w0_tints v1_nodes v1_arcCount v1_version w1_near) H → va_D A (wd_Gr_coloursNear cI cJ cG cZ a0 a1 a0_tints a0_peeled a1_near a1_tail a1_head w0_tints v1_nodes v1_arcCount v1_version w1_near) → va_S A s.heap H locs → W p l e (headSpec us_Gr_coloursNear rm_Gr_coloursNear).room s m ([.ref a0, .ref a1, .int p2] : List Value).toArray below meth c H locs 0 0 (MQ below (va_Qi (fun (r : Int32) (_ : Unit) => ret = r) (fun _ t => PoS (dC, dI) (tyL cI cJ cG cZ) (wd_Gr_coloursNear cI cJ cG cZ a0 a1 a0_tints a0_peeled a1_near a1_tail a1_head w0_tints v1_nodes v1_arcCount v1_version w1_near) A t) A) ([.ref a0, .ref a1, .int p2] : List Value).toArray s 0 0 A) (F0 m 5 ls []))) hm (fun k_5 z_5 ih_5 hm => ?_) _ _ rfl ls H locs (lv_sub hl [2, 3, 4, 1, 0] rfl) hP hD hS
  intro x3_1 x4_2 hz ls H locs hl hP hD hS
  subst hz
  dsimp only at hm
  refine lv_iload hx hb d_Gr_coloursNear_5 (lv_at hl 4 rfl) ?_
  refine lv_aload_n hx hb d_Gr_coloursNear_7 rfl (lv_at hl 1 rfl) ?_
  refine va_get (D := (dC, dI)) (ci := 1) (v := .int v1_nodes) (C := R_Net) (T := T_Net) (N := 6) hx hb htt hin_Net hown hK hP 2 rfl rfl 3 (by decide) (htt _ kt_52) (fun _ h9 => h9) rfl d_Gr_coloursNear_8 ?_
  refine lv_icmp_ge (tgt := 57) hx hb d_Gr_coloursNear_11 (by decide) (fun c_3 => ?_) (fun c_3 => ?_)
  · have hm := ite_t c_3 hm
    refine lv_iload_n hx hb d_Gr_coloursNear_57 rfl (lv_at hl 3 rfl) ?_
    cases hm
    exact W.iret hx hb hr (fun t ht hW => ⟨⟨_, (), rfl, rfl, by rw [ht]; exact hP, va_K.moved hW.alike hK, hD⟩, hS.F ht⟩) hS.2.2 d_Gr_coloursNear_58
  · have hm := ite_f c_3 hm
    refine lv_aload_n hx hb d_Gr_coloursNear_14 rfl (lv_at hl 1 rfl) ?_
    refine va_get (D := (dC, dI)) (ci := 1) (v := .ref a1_near) (C := R_Net) (T := T_Net) (N := 6) hx hb htt hin_Net hown hK hP 2 rfl rfl 0 (by decide) (htt _ kt_38) (fun _ h9 => h9) rfl d_Gr_coloursNear_15 ?_
    refine lv_iload_n hx hb d_Gr_coloursNear_18 rfl (lv_at hl 2 rfl) ?_
    obtain ⟨hi_4, hm⟩ := gC_e hm
    refine va_iald hx hb hK hP 3 0 rfl rfl (inb_vp hi_4) d_Gr_coloursNear_19 ?_
    refine lv_iload hx hb d_Gr_coloursNear_20 (lv_at hl 4 rfl) ?_
    refine lv_ishr hx hb d_Gr_coloursNear_22 ?_
    refine lv_iconst (v := 1) hx hb d_Gr_coloursNear_23 (by decide) ?_
    refine lv_iand hx hb d_Gr_coloursNear_24 ?_
    refine lv_if_eq (tgt := 51) hx hb d_Gr_coloursNear_25 (by decide) (fun c_5 => ?_) (fun c_5 => ?_)
    · have hm := ite_t c_5 hm
      obtain ⟨x4_6, ex4_6⟩ : ∃ y : Int32, y = x4_2 + 1 := ⟨_, rfl⟩
      have hm := gB_at ex4_6 hm
      refine lv_iinc (v := x4_6) (lv' := [(4, .int x4_6), (0, .ref a0), (1, .ref a1), (2, .int p2), (3, .int x3_1)]) hx hb d_Gr_coloursNear_51 hl (k := 4) rfl (by rw [ex4_6]; rfl) (by decide) rfl (fun ls hl => ?_)
      refine lv_goto (tgt := 5) hx hb d_Gr_coloursNear_54 (by decide) ?_
      exact ih_5 _ hm _ _ rfl ls H locs (lv_sub hl [1, 2, 3, 4, 0] rfl) hP hD hS
    · have hm := ite_f c_5 hm
      refine lv_aload_n hx hb d_Gr_coloursNear_28 rfl (lv_at hl 0 rfl) ?_
      refine va_get (D := (dC, dI)) (ci := 7) (v := .ref a0_tints) (C := R_Gr) (T := T_Gr) (N := 2) hx hb htt hin_Gr hown hK hP 0 rfl rfl 0 (by decide) (htt _ kt_215) (fun _ h9 => h9) rfl d_Gr_coloursNear_29 ?_
      refine lv_iload hx hb d_Gr_coloursNear_32 (lv_at hl 4 rfl) ?_
      obtain ⟨hi_7, hm⟩ := gC_e hm
      refine va_iald hx hb hK hP 1 0 rfl rfl (inb_vp hi_7) d_Gr_coloursNear_34 ?_
      refine lv_iconst (v := (-1)) hx hb d_Gr_coloursNear_35 (by decide) ?_
      refine lv_icmp_eq (tgt := 51) hx hb d_Gr_coloursNear_36 (by decide) (fun c_8 => ?_) (fun c_8 => ?_)
      · have hm := ite_t c_8 hm
        obtain ⟨x4_9, ex4_9⟩ : ∃ y : Int32, y = x4_2 + 1 := ⟨_, rfl⟩
        have hm := gB_at ex4_9 hm
        refine lv_iinc (v := x4_9) (lv' := [(4, .int x4_9), (0, .ref a0), (1, .ref a1), (2, .int p2), (3, .int x3_1)]) hx hb d_Gr_coloursNear_51 hl (k := 4) rfl (by rw [ex4_9]; rfl) (by decide) rfl (fun ls hl => ?_)
        refine lv_goto (tgt := 5) hx hb d_Gr_coloursNear_54 (by decide) ?_
        exact ih_5 _ hm _ _ rfl ls H locs (lv_sub hl [1, 2, 3, 4, 0] rfl) hP hD hS
      · have hm := ite_f c_8 hm
        refine lv_iload_n hx hb d_Gr_coloursNear_39 rfl (lv_at hl 3 rfl) ?_
        refine lv_iconst (v := 1) hx hb d_Gr_coloursNear_40 (by decide) ?_
        refine lv_aload_n hx hb d_Gr_coloursNear_41 rfl (lv_at hl 0 rfl) ?_
        refine va_get (D := (dC, dI)) (ci := 7) (v := .ref a0_tints) (C := R_Gr) (T := T_Gr) (N := 2) hx hb htt hin_Gr hown hK hP 0 rfl rfl 0 (by decide) (htt _ kt_215) (fun _ h9 => h9) rfl d_Gr_coloursNear_42 ?_
        refine lv_iload hx hb d_Gr_coloursNear_45 (lv_at hl 4 rfl) ?_
        obtain ⟨hi_10, hm⟩ := gC_e hm
        refine va_iald hx hb hK hP 1 0 rfl rfl (inb_vp hi_10) d_Gr_coloursNear_47 ?_
        refine lv_ishl hx hb d_Gr_coloursNear_48 ?_
        refine lv_ior hx hb d_Gr_coloursNear_49 ?_
        refine lv_topi (fun x3_11 ex3_11 => ?_)
        have hm := gB_at ex3_11 hm
        refine lv_istore_n (lv' := [(3, .int x3_11), (0, .ref a0), (1, .ref a1), (2, .int p2), (4, .int x4_2)]) hx hb d_Gr_coloursNear_50 rfl hl (by decide) rfl (fun ls hl => ?_)
        obtain ⟨x4_12, ex4_12⟩ : ∃ y : Int32, y = x4_2 + 1 := ⟨_, rfl⟩
        have hm := gB_at ex4_12 hm
        refine lv_iinc (v := x4_12) (lv' := [(4, .int x4_12), (3, .int x3_11), (0, .ref a0), (1, .ref a1), (2, .int p2)]) hx hb d_Gr_coloursNear_51 hl (k := 4) rfl (by rw [ex4_12]; rfl) (by decide) rfl (fun ls hl => ?_)
        refine lv_goto (tgt := 5) hx hb d_Gr_coloursNear_54 (by decide) ?_
        exact ih_5 _ hm _ _ rfl ls H locs (lv_sub hl [2, 3, 4, 1, 0] rfl) hP hD hS
theorem d_Gr_nextByRank_0 : decode prog_2_method_5_code 0 = .ok (.iconst 0, 1) := by decide +kernel
theorem d_Gr_nextByRank_1 : decode prog_2_method_5_code 1 = .ok (.istore_n 3, 1) := by decide +kernel
theorem d_Gr_nextByRank_2 : decode prog_2_method_5_code 2 = .ok (.iconst (-1), 1) := by decide +kernel
theorem d_Gr_nextByRank_3 : decode prog_2_method_5_code 3 = .ok (.istore 4, 2) := by decide +kernel
theorem d_Gr_nextByRank_5 : decode prog_2_method_5_code 5 = .ok (.iconst 0, 1) := by decide +kernel
theorem d_Gr_nextByRank_6 : decode prog_2_method_5_code 6 = .ok (.istore 5, 2) := by decide +kernel
theorem d_Gr_nextByRank_8 : decode prog_2_method_5_code 8 = .ok (.iload 5, 2) := by decide +kernel
theorem d_Gr_nextByRank_10 : decode prog_2_method_5_code 10 = .ok (.aload_n 1, 1) := by decide +kernel
theorem d_Gr_nextByRank_11 : decode prog_2_method_5_code 11 = .ok (.getfield 28, 3) := by decide +kernel
theorem d_Gr_nextByRank_14 : decode prog_2_method_5_code 14 = .ok (.if_icmp .ge 68, 3) := by decide +kernel
theorem d_Gr_nextByRank_17 : decode prog_2_method_5_code 17 = .ok (.aload_n 0, 1) := by decide +kernel
theorem d_Gr_nextByRank_18 : decode prog_2_method_5_code 18 = .ok (.getfield 9, 3) := by decide +kernel
theorem d_Gr_nextByRank_21 : decode prog_2_method_5_code 21 = .ok (.iload 5, 2) := by decide +kernel
theorem d_Gr_nextByRank_23 : decode prog_2_method_5_code 23 = .ok (.iaload, 1) := by decide +kernel
theorem d_Gr_nextByRank_24 : decode prog_2_method_5_code 24 = .ok (.iconst (-1), 1) := by decide +kernel
theorem d_Gr_nextByRank_25 : decode prog_2_method_5_code 25 = .ok (.if_icmp .ne 51, 3) := by decide +kernel
theorem d_Gr_nextByRank_28 : decode prog_2_method_5_code 28 = .ok (.aload_n 1, 1) := by decide +kernel
theorem d_Gr_nextByRank_29 : decode prog_2_method_5_code 29 = .ok (.getfield 55, 3) := by decide +kernel
theorem d_Gr_nextByRank_32 : decode prog_2_method_5_code 32 = .ok (.iload 5, 2) := by decide +kernel
theorem d_Gr_nextByRank_34 : decode prog_2_method_5_code 34 = .ok (.iaload, 1) := by decide +kernel
theorem d_Gr_nextByRank_35 : decode prog_2_method_5_code 35 = .ok (.invokestatic 46, 3) := by decide +kernel
theorem d_Gr_nextByRank_38 : decode prog_2_method_5_code 38 = .ok (.istore 6, 2) := by decide +kernel
theorem d_Gr_nextByRank_40 : decode prog_2_method_5_code 40 = .ok (.iload_n 2, 1) := by decide +kernel
theorem d_Gr_nextByRank_41 : decode prog_2_method_5_code 41 = .ok (.ifCond .eq 21, 3) := by decide +kernel
theorem d_Gr_nextByRank_44 : decode prog_2_method_5_code 44 = .ok (.iload 6, 2) := by decide +kernel
theorem d_Gr_nextByRank_46 : decode prog_2_method_5_code 46 = .ok (.aload_n 0, 1) := by decide +kernel
theorem d_Gr_nextByRank_47 : decode prog_2_method_5_code 47 = .ok (.aload_n 1, 1) := by decide +kernel
theorem d_Gr_nextByRank_48 : decode prog_2_method_5_code 48 = .ok (.iload 5, 2) := by decide +kernel
theorem d_Gr_nextByRank_50 : decode prog_2_method_5_code 50 = .ok (.invokevirtual 38, 3) := by decide +kernel
theorem d_Gr_nextByRank_53 : decode prog_2_method_5_code 53 = .ok (.invokestatic 46, 3) := by decide +kernel
theorem d_Gr_nextByRank_56 : decode prog_2_method_5_code 56 = .ok (.bipush 12, 2) := by decide +kernel
theorem d_Gr_nextByRank_58 : decode prog_2_method_5_code 58 = .ok (.imul, 1) := by decide +kernel
theorem d_Gr_nextByRank_59 : decode prog_2_method_5_code 59 = .ok (.iadd, 1) := by decide +kernel
theorem d_Gr_nextByRank_60 : decode prog_2_method_5_code 60 = .ok (.istore 6, 2) := by decide +kernel
theorem d_Gr_nextByRank_62 : decode prog_2_method_5_code 62 = .ok (.iload 6, 2) := by decide +kernel
theorem d_Gr_nextByRank_64 : decode prog_2_method_5_code 64 = .ok (.iload 4, 2) := by decide +kernel
theorem d_Gr_nextByRank_66 : decode prog_2_method_5_code 66 = .ok (.if_icmp .le 10, 3) := by decide +kernel
theorem d_Gr_nextByRank_69 : decode prog_2_method_5_code 69 = .ok (.iload 5, 2) := by decide +kernel
theorem d_Gr_nextByRank_71 : decode prog_2_method_5_code 71 = .ok (.istore_n 3, 1) := by decide +kernel
theorem d_Gr_nextByRank_72 : decode prog_2_method_5_code 72 = .ok (.iload 6, 2) := by decide +kernel
theorem d_Gr_nextByRank_74 : decode prog_2_method_5_code 74 = .ok (.istore 4, 2) := by decide +kernel
theorem d_Gr_nextByRank_76 : decode prog_2_method_5_code 76 = .ok (.iinc 5 1, 3) := by decide +kernel
theorem d_Gr_nextByRank_79 : decode prog_2_method_5_code 79 = .ok (.goto (-71), 3) := by decide +kernel
theorem d_Gr_nextByRank_82 : decode prog_2_method_5_code 82 = .ok (.iload_n 3, 1) := by decide +kernel
theorem d_Gr_nextByRank_83 : decode prog_2_method_5_code 83 = .ok (.ireturn, 1) := by decide +kernel
abbrev wd_Gr_nextByRank (cI cJ cG cZ : ClassId) (a0 a1 a0_tints a0_peeled a1_near a1_tail a1_head : Nat) (w0_tints : Nat → Int32) (v1_nodes : Int32) (v1_arcCount : Int32) (v1_version : Int32) (w1_near : Nat → Int32) : va_W := [(a0, .inr (7, [.ref a0_tints, .ref a0_peeled])), (a0_tints, .inl (cI, 12, .inl w0_tints)), (a1, .inr (1, [.ref a1_near, .ref a1_tail, .ref a1_head, .int v1_nodes, .int v1_arcCount, .int v1_version])), (a1_near, .inl (cI, 12, .inl w1_near))]
abbrev us_Gr_nextByRank : List Cond := .code y_Gr_nextByRank prog_2_method_5_code 7 (some .int) :: gtbl
abbrev rm_Gr_nextByRank : Room := { frames := 1, cells := 0, slots := 0, locals := 24 }
def m_Gr_nextByRank (F : Nat) (w0_tints : Nat → Int32) (v1_nodes : Int32) (v1_arcCount : Int32) (v1_version : Int32) (w1_near : Nat → Int32) (p2 : Int32) : Option (Int32) :=
  gL (fun (k_8 : (Int32 × Int32 × Int32) → Option (Int32)) (z_8 : Int32 × Int32 × Int32) => match z_8 with
  | (x3_1, x4_2, x5_3) =>
  if v1_nodes ≤ x5_3 then (
    some x3_1
  ) else (
    gC (inb x5_3 12) (
    if (w0_tints x5_3.toNatClampNeg) = ((-1) : Int32) then (
      gC (inb x5_3 12) (
      gB (bitc (w1_near x5_3.toNatClampNeg)) (fun x6_9 =>
      gB (α := Int32 → Option (Int32)) (fun x6_10 =>
        if x6_10 ≤ x4_2 then (
          gB (x5_3 + 1) (fun x5_12 =>
          k_8 (x3_1, x4_2, x5_12))
        ) else (
          gB (x5_3 + 1) (fun x5_13 =>
          k_8 (x5_3, x6_10, x5_13))
        )
      ) (fun J_62 =>
      if p2 = 0 then (
        J_62 x6_9
      ) else (
        gM (m_Gr_coloursNear F w0_tints v1_nodes v1_arcCount v1_version w1_near x5_3) (fun q_15 =>
        gB (x6_9 + ((bitc q_15) * 12)) (fun x6_18 =>
        J_62 x6_18))
      )
      )))
    ) else (
      gB (x5_3 + 1) (fun x5_7 =>
      k_8 (x3_1, x4_2, x5_7))
    ))
  )
  ) F (0, (-1), 0)
set_option maxHeartbeats 4000000 in
set_option maxRecDepth 100000 in
theorem c_Gr_nextByRank (l : Launch) (dC : Nat → ClassId) (dI : Nat → Nat → Nat) (cI cJ cG cZ : ClassId) (a0 a1 a0_tints a0_peeled a1_near a1_tail a1_head : Nat) (sz : Nat) (F : Nat) (w0_tints : Nat → Int32) (v1_nodes : Int32) (v1_arcCount : Int32) (v1_version : Int32) (w1_near : Nat → Int32) (p2 : Int32) (ret : Int32) (hm : m_Gr_nextByRank F w0_tints v1_nodes v1_arcCount v1_version w1_near p2 = some ret) : Met l y_Gr_nextByRank us_Gr_nextByRank rm_Gr_nextByRank (PcS (dC, dI) (tyL cI cJ cG cZ) [.ref a0, .ref a1, .int p2] sz (wd_Gr_nextByRank cI cJ cG cZ a0 a1 a0_tints a0_peeled a1_near a1_tail a1_head w0_tints v1_nodes v1_arcCount v1_version w1_near)) (va_Qi (fun (r : Int32) (_ : Unit) => ret = r) (fun _ t => PoS (dC, dI) (tyL cI cJ cG cZ) (wd_Gr_nextByRank cI cJ cG cZ a0 a1 a0_tints a0_peeled a1_near a1_tail a1_head w0_tints v1_nodes v1_arcCount v1_version w1_near) (va_A (wd_Gr_nextByRank cI cJ cG cZ a0 a1 a0_tints a0_peeled a1_near a1_tail a1_head w0_tints v1_nodes v1_arcCount v1_version w1_near) sz) t) (va_A (wd_Gr_nextByRank cI cJ cG cZ a0 a1 a0_tints a0_peeled a1_near a1_tail a1_head w0_tints v1_nodes v1_arcCount v1_version w1_near) sz)) 0 0 (va_A (wd_Gr_nextByRank cI cJ cG cZ a0 a1 a0_tints a0_peeled a1_near a1_tail a1_head w0_tints v1_nodes v1_arcCount v1_version w1_near) sz) := by
  refine Met.ofW (cc := prog_2_method_5_code) (maxL := 7) (ret := (some .int)) (by decide) rfl ?_
  intro p e s m args below meth c s₁ B hml hv
  obtain ⟨rfl, hsz, hP, hK, hD0, hNw⟩ := hv
  have hx := B.exec
  have hb := B.bytes
  have hr := B.returns
  have htt : ∀ w ∈ gtbl, w.before _ s = true := fun w h => atoms_spec (ws := us_Gr_nextByRank) B.pre w (List.mem_cons_of_mem _ h)
  have hown : s.vm.findClass R_Gr = some m.cls := findClass_of_methodNamed B.named
  have hlocks := B.notSynchronized
  subst hsz
  have hD := hD0.self (sz := s.heap.size)
  generalize hAe : va_A (wd_Gr_nextByRank cI cJ cG cZ a0 a1 a0_tints a0_peeled a1_near a1_tail a1_head w0_tints v1_nodes v1_arcCount v1_version w1_near) s.heap.size = A at hD ⊢
  have hA : ∀ q : Nat, s.heap.size ≤ q → A q := fun q h => by rw [← hAe]; exact Or.inr h
  clear hAe hD0
  have hS : va_S A s.heap s.heap [] := va_S.rf
  have hl := lv_entry ([.ref a0, .ref a1, .int p2]) (n := 7) (Nat.le_of_ble_eq_true rfl)
  rw [lg_entry_eq]
  generalize (lg_sl ([.ref a0, .ref a1, .int p2]) ++ List.replicate (7 - (lg_sl ([.ref a0, .ref a1, .int p2])).length) Slot.unset).toArray = ls at hl ⊢
  have hl : lv_has ls 7 [(0, .ref a0), (1, .ref a1), (2, .int p2)] := hl
  generalize hH : s.heap = H at hP ⊢
  have hS : va_S A s.heap H [] := hH ▸ hS
  generalize hLo : ([] : List Loc) = locs at hS ⊢
  clear hH hLo
  unfold m_Gr_nextByRank at hm
  refine lv_iconst (v := 0) hx hb d_Gr_nextByRank_0 (by decide) ?_
  refine lv_istore_n (lv' := [(3, .int 0), (0, .ref a0), (1, .ref a1), (2, .int p2)]) hx hb d_Gr_nextByRank_1 rfl hl (by decide) rfl (fun ls hl => ?_)
  refine lv_iconst (v := (-1)) hx hb d_Gr_nextByRank_2 (by decide) ?_
  refine lv_istore (lv' := [(4, .int (-1)), (3, .int 0), (0, .ref a0), (1, .ref a1), (2, .int p2)]) hx hb d_Gr_nextByRank_3 hl (by decide) rfl (fun ls hl => ?_)
  refine lv_iconst (v := 0) hx hb d_Gr_nextByRank_5 (by decide) ?_
  refine lv_istore (lv' := [(5, .int 0), (4, .int (-1)), (3, .int 0), (0, .ref a0), (1, .ref a1), (2, .int p2)]) hx hb d_Gr_nextByRank_6 hl (by decide) rfl (fun ls hl => ?_)
  refine gL_e (P := (fun (z_8 : Int32 × Int32 × Int32) => ∀ (x3_1 : Int32), ∀ (x4_2 : Int32), ∀ (x5_3 : Int32), z_8 = (x3_1, x4_2, x5_3) → ∀ (ls : Array Slot) (H : Heap) (locs : List Loc), lv_has ls 7 [(0, .ref a0), (1, .ref a1), (2, .int p2), (3, .int x3_1), (4, .int x4_2), (5, .int x5_3)] → va_P (dC, dI) vwCl (wd_Gr_nextByRank cI cJ cG cZ a0 a1 a0_tints a0_peeled a1_near a1_tail a1_head w0_tints v1_nodes v1_arcCount v1_version w1_near) H → va_D A (wd_Gr_nextByRank cI cJ cG cZ a0 a1 a0_tints a0_peeled a1_near a1_tail a1_head w0_tints v1_nodes v1_arcCount v1_version w1_near) → va_S A s.heap H locs → W p l e (headSpec us_Gr_nextByRank rm_Gr_nextByRank).room s m ([.ref a0, .ref a1, .int p2] : List Value).toArray below meth c H locs 0 0 (MQ below (va_Qi (fun (r : Int32) (_ : Unit) => ret = r) (fun _ t => PoS (dC, dI) (tyL cI cJ cG cZ) (wd_Gr_nextByRank cI cJ cG cZ a0 a1 a0_tints a0_peeled a1_near a1_tail a1_head w0_tints v1_nodes v1_arcCount v1_version w1_near) A t) A) ([.ref a0, .ref a1, .int p2] : List Value).toArray s 0 0 A) (F0 m 8 ls []))) hm (fun k_8 z_8 ih_8 hm => ?_) _ _ _ rfl ls H locs (lv_sub hl [3, 4, 5, 2, 1, 0] rfl) hP hD hS
  intro x3_1 x4_2 x5_3 hz ls H locs hl hP hD hS
  subst hz
  dsimp only at hm
  refine lv_iload hx hb d_Gr_nextByRank_8 (lv_at hl 5 rfl) ?_
  refine lv_aload_n hx hb d_Gr_nextByRank_10 rfl (lv_at hl 1 rfl) ?_
  refine va_get (D := (dC, dI)) (ci := 1) (v := .int v1_nodes) (C := R_Net) (T := T_Net) (N := 6) hx hb htt hin_Net hown hK hP 2 rfl rfl 3 (by decide) (htt _ kt_52) (fun _ h9 => h9) rfl d_Gr_nextByRank_11 ?_
  refine lv_icmp_ge (tgt := 82) hx hb d_Gr_nextByRank_14 (by decide) (fun c_4 => ?_) (fun c_4 => ?_)
  · have hm := ite_t c_4 hm
    refine lv_iload_n hx hb d_Gr_nextByRank_82 rfl (lv_at hl 3 rfl) ?_
    cases hm
    exact W.iret hx hb hr (fun t ht hW => ⟨⟨_, (), rfl, rfl, by rw [ht]; exact hP, va_K.moved hW.alike hK, hD⟩, hS.F ht⟩) hS.2.2 d_Gr_nextByRank_83
  · have hm := ite_f c_4 hm
    refine lv_aload_n hx hb d_Gr_nextByRank_17 rfl (lv_at hl 0 rfl) ?_
    refine va_get (D := (dC, dI)) (ci := 7) (v := .ref a0_tints) (C := R_Gr) (T := T_Gr) (N := 2) hx hb htt hin_Gr hown hK hP 0 rfl rfl 0 (by decide) (htt _ kt_215) (fun _ h9 => h9) rfl d_Gr_nextByRank_18 ?_
    refine lv_iload hx hb d_Gr_nextByRank_21 (lv_at hl 5 rfl) ?_
    obtain ⟨hi_5, hm⟩ := gC_e hm
    refine va_iald hx hb hK hP 1 0 rfl rfl (inb_vp hi_5) d_Gr_nextByRank_23 ?_
    refine lv_iconst (v := (-1)) hx hb d_Gr_nextByRank_24 (by decide) ?_
    refine lv_icmp_ne (tgt := 76) hx hb d_Gr_nextByRank_25 (by decide) (fun c_6 => ?_) (fun c_6 => ?_)
    · have hm := ite_f c_6 hm
      obtain ⟨x5_7, ex5_7⟩ : ∃ y : Int32, y = x5_3 + 1 := ⟨_, rfl⟩
      have hm := gB_at ex5_7 hm
      refine lv_iinc (v := x5_7) (lv' := [(5, .int x5_7), (0, .ref a0), (1, .ref a1), (2, .int p2), (3, .int x3_1), (4, .int x4_2)]) hx hb d_Gr_nextByRank_76 hl (k := 5) rfl (by rw [ex5_7]; rfl) (by decide) rfl (fun ls hl => ?_)
      refine lv_goto (tgt := 8) hx hb d_Gr_nextByRank_79 (by decide) ?_
      exact ih_8 _ hm _ _ _ rfl ls H locs (lv_sub hl [1, 2, 3, 4, 5, 0] rfl) hP hD hS
    · have hm := ite_t c_6 hm
      refine lv_aload_n hx hb d_Gr_nextByRank_28 rfl (lv_at hl 1 rfl) ?_
      refine va_get (D := (dC, dI)) (ci := 1) (v := .ref a1_near) (C := R_Net) (T := T_Net) (N := 6) hx hb htt hin_Net hown hK hP 2 rfl rfl 0 (by decide) (htt _ kt_38) (fun _ h9 => h9) rfl d_Gr_nextByRank_29 ?_
      refine lv_iload hx hb d_Gr_nextByRank_32 (lv_at hl 5 rfl) ?_
      obtain ⟨hi_8, hm⟩ := gC_e hm
      refine va_iald hx hb hK hP 3 0 rfl rfl (inb_vp hi_8) d_Gr_nextByRank_34 ?_
      refine gx_bit hx hb hml hown htt kt_592 hK hNw hP hD hS hA hl.1 (lv_room (Nat.le_of_ble_eq_true rfl)) (Nat.le_of_ble_eq_true rfl) (Nat.le_of_ble_eq_true rfl) (Nat.zero_le _) (Nat.zero_le _) d_Gr_nextByRank_35 (fun H locs hP hD hS => ?_)
      refine lv_topi (fun x6_9 ex6_9 => ?_)
      have hm := gB_at ex6_9 hm
      refine lv_istore (lv' := [(6, .int x6_9), (0, .ref a0), (1, .ref a1), (2, .int p2), (3, .int x3_1), (4, .int x4_2), (5, .int x5_3)]) hx hb d_Gr_nextByRank_38 hl (by decide) rfl (fun ls hl => ?_)
      refine lv_iload_n hx hb d_Gr_nextByRank_40 rfl (lv_at hl 3 rfl) ?_
      obtain ⟨J_62, hJ_62, hm⟩ := gB_x hm
      have jp_62 : ∀ (x6_10 : Int32) (ls : Array Slot) (H : Heap) (locs : List Loc), J_62 x6_10 = some ret → lv_has ls 7 [(0, .ref a0), (1, .ref a1), (2, .int p2), (3, .int x3_1), (4, .int x4_2), (5, .int x5_3), (6, .int x6_10)] → va_P (dC, dI) vwCl (wd_Gr_nextByRank cI cJ cG cZ a0 a1 a0_tints a0_peeled a1_near a1_tail a1_head w0_tints v1_nodes v1_arcCount v1_version w1_near) H → va_D A (wd_Gr_nextByRank cI cJ cG cZ a0 a1 a0_tints a0_peeled a1_near a1_tail a1_head w0_tints v1_nodes v1_arcCount v1_version w1_near) → va_S A s.heap H locs → W p l e (headSpec us_Gr_nextByRank rm_Gr_nextByRank).room s m ([.ref a0, .ref a1, .int p2] : List Value).toArray below meth c H locs 0 0 (MQ below (va_Qi (fun (r : Int32) (_ : Unit) => ret = r) (fun _ t => PoS (dC, dI) (tyL cI cJ cG cZ) (wd_Gr_nextByRank cI cJ cG cZ a0 a1 a0_tints a0_peeled a1_near a1_tail a1_head w0_tints v1_nodes v1_arcCount v1_version w1_near) A t) A) ([.ref a0, .ref a1, .int p2] : List Value).toArray s 0 0 A) (F0 m 62 ls []) := by
        intro x6_10 ls H locs hm hl hP hD hS
        have hm := jn1 hJ_62 hm
        refine lv_iload hx hb d_Gr_nextByRank_62 (lv_at hl 6 rfl) ?_
        refine lv_iload hx hb d_Gr_nextByRank_64 (lv_at hl 4 rfl) ?_
        refine lv_icmp_le (tgt := 76) hx hb d_Gr_nextByRank_66 (by decide) (fun c_11 => ?_) (fun c_11 => ?_)
        · have hm := ite_t c_11 hm
          obtain ⟨x5_12, ex5_12⟩ : ∃ y : Int32, y = x5_3 + 1 := ⟨_, rfl⟩
          have hm := gB_at ex5_12 hm
          refine lv_iinc (v := x5_12) (lv' := [(5, .int x5_12), (0, .ref a0), (1, .ref a1), (2, .int p2), (3, .int x3_1), (4, .int x4_2), (6, .int x6_10)]) hx hb d_Gr_nextByRank_76 hl (k := 5) rfl (by rw [ex5_12]; rfl) (by decide) rfl (fun ls hl => ?_)
          refine lv_goto (tgt := 8) hx hb d_Gr_nextByRank_79 (by decide) ?_
          exact ih_8 _ hm _ _ _ rfl ls H locs (lv_sub hl [1, 2, 3, 4, 5, 0] rfl) hP hD hS
        · have hm := ite_f c_11 hm
          refine lv_iload hx hb d_Gr_nextByRank_69 (lv_at hl 5 rfl) ?_
          refine lv_istore_n (lv' := [(3, .int x5_3), (0, .ref a0), (1, .ref a1), (2, .int p2), (4, .int x4_2), (5, .int x5_3), (6, .int x6_10)]) hx hb d_Gr_nextByRank_71 rfl hl (by decide) rfl (fun ls hl => ?_)
          refine lv_iload hx hb d_Gr_nextByRank_72 (lv_at hl 6 rfl) ?_
          refine lv_istore (lv' := [(4, .int x6_10), (3, .int x5_3), (0, .ref a0), (1, .ref a1), (2, .int p2), (5, .int x5_3), (6, .int x6_10)]) hx hb d_Gr_nextByRank_74 hl (by decide) rfl (fun ls hl => ?_)
          obtain ⟨x5_13, ex5_13⟩ : ∃ y : Int32, y = x5_3 + 1 := ⟨_, rfl⟩
          have hm := gB_at ex5_13 hm
          refine lv_iinc (v := x5_13) (lv' := [(5, .int x5_13), (4, .int x6_10), (3, .int x5_3), (0, .ref a0), (1, .ref a1), (2, .int p2), (6, .int x6_10)]) hx hb d_Gr_nextByRank_76 hl (k := 5) rfl (by rw [ex5_13]; rfl) (by decide) rfl (fun ls hl => ?_)
          refine lv_goto (tgt := 8) hx hb d_Gr_nextByRank_79 (by decide) ?_
          exact ih_8 _ hm _ _ _ rfl ls H locs (lv_sub hl [3, 4, 5, 2, 1, 0] rfl) hP hD hS
      clear hJ_62
      refine lv_if_eq (tgt := 62) hx hb d_Gr_nextByRank_41 (by decide) (fun c_14 => ?_) (fun c_14 => ?_)
      · have hm := ite_t c_14 hm
        exact jp_62 _ ls H locs hm (lv_sub hl [1, 2, 3, 4, 5, 6, 0] rfl) hP hD hS
      · have hm := ite_f c_14 hm
        refine lv_iload hx hb d_Gr_nextByRank_44 (lv_at hl 0 rfl) ?_
        refine lv_aload_n hx hb d_Gr_nextByRank_46 rfl (lv_at hl 1 rfl) ?_
        refine lv_aload_n hx hb d_Gr_nextByRank_47 rfl (lv_at hl 2 rfl) ?_
        refine lv_iload hx hb d_Gr_nextByRank_48 (lv_at hl 6 rfl) ?_
        obtain ⟨q_15, hc_16, hm⟩ := gM_e hm
        have hPc : va_P (dC, dI) vwCl (wd_Gr_coloursNear cI cJ cG cZ a0 a1 a0_tints a0_peeled a1_near a1_tail a1_head w0_tints v1_nodes v1_arcCount v1_version w1_near) H := hP.sub [0, 1, 2, 3] rfl
        have hDc : va_D A (wd_Gr_coloursNear cI cJ cG cZ a0 a1 a0_tints a0_peeled a1_near a1_tail a1_head w0_tints v1_nodes v1_arcCount v1_version w1_near) := hD.sub [0, 1, 2, 3] (by decide) rfl
        have hFc : ∀ q, va_A (wd_Gr_coloursNear cI cJ cG cZ a0 a1 a0_tints a0_peeled a1_near a1_tail a1_head w0_tints v1_nodes v1_arcCount v1_version w1_near) H.size q → A q := va_free hD hS hA [0, 1, 2, 3] rfl
        refine va_calli (va_runV (As := [.ref a1, .int x5_3]) (rest := [.int x6_9]) ⟨hx, hb, hml, hown, htt⟩ (c_Gr_coloursNear l dC dI cI cJ cG cZ a0 a1 a0_tints a0_peeled a1_near a1_tail a1_head H.size F w0_tints v1_nodes v1_arcCount v1_version w1_near x5_3 q_15 hc_16) (cwV 2 htt (gdV kt_601 kt_603 kp_38 kt_8 kt_604) rfl rfl rfl (by decide +kernel) ⟨(Nat.le_of_ble_eq_true rfl), (Nat.le_of_ble_eq_true rfl)⟩) ⟨PcS_blind, va_recv hK hPc (ci := 7) (q0 := 0) rfl rfl, PcS_in hPc hK hDc hNw⟩ rfl rfl hl.1 rfl (lv_room (Nat.le_of_ble_eq_true rfl)) d_Gr_nextByRank_50 ⟨Nat.zero_le _, Nat.zero_le _⟩) hS (fun q _ h => hFc q h) hFc (fun r_17 u t H1 locs ht hvm hw hB hz1 hk1 hS => ?_)
        obtain ⟨hP1, hK1, hD1⟩ := hB
        rw [ht] at hP1
        subst hw
        obtain ⟨hP, hD⟩ := va_join (wr := []) (w1 := (wd_Gr_coloursNear cI cJ cG cZ a0 a1 a0_tints a0_peeled a1_near a1_tail a1_head w0_tints v1_nodes v1_arcCount v1_version w1_near)) hP hD [0, 1, 2, 3] [] rfl rfl (by decide) (by decide) hk1 hFc hP1 hD1
        have hP : va_P (dC, dI) vwCl (wd_Gr_nextByRank cI cJ cG cZ a0 a1 a0_tints a0_peeled a1_near a1_tail a1_head w0_tints v1_nodes v1_arcCount v1_version w1_near) H1 := hP.sub [0, 1, 2, 3] rfl
        have hD : va_D A (wd_Gr_nextByRank cI cJ cG cZ a0 a1 a0_tints a0_peeled a1_near a1_tail a1_head w0_tints v1_nodes v1_arcCount v1_version w1_near) := hD.sub [0, 1, 2, 3] (by decide) rfl
        clear hP1 hK1 hD1 hk1 hPc hDc hFc ht hvm hz1
        generalize H1 = H at hP hS ⊢
        refine gx_bit hx hb hml hown htt kt_592 hK hNw hP hD hS hA hl.1 (lv_room (Nat.le_of_ble_eq_true rfl)) (Nat.le_of_ble_eq_true rfl) (Nat.le_of_ble_eq_true rfl) (Nat.zero_le _) (Nat.zero_le _) d_Gr_nextByRank_53 (fun H locs hP hD hS => ?_)
        refine lv_bipush (v := 12) hx hb d_Gr_nextByRank_56 (by decide) ?_
        refine lv_imul hx hb d_Gr_nextByRank_58 ?_
        refine lv_iadd hx hb d_Gr_nextByRank_59 ?_
        refine lv_topi (fun x6_18 ex6_18 => ?_)
        have hm := gB_at ex6_18 hm
        refine lv_istore (lv' := [(6, .int x6_18), (0, .ref a0), (1, .ref a1), (2, .int p2), (3, .int x3_1), (4, .int x4_2), (5, .int x5_3)]) hx hb d_Gr_nextByRank_60 hl (by decide) rfl (fun ls hl => ?_)
        exact jp_62 _ ls H locs hm (lv_sub hl [1, 2, 3, 4, 5, 6, 0] rfl) hP hD hS
theorem d_Gr_next_0 : decode prog_2_method_4_code 0 = .ok (.iload_n 2, 1) := by decide +kernel
theorem d_Gr_next_1 : decode prog_2_method_4_code 1 = .ok (.tableswitch 55 1 3 #[27, 34, 48], 27) := by decide +kernel
theorem d_Gr_next_28 : decode prog_2_method_4_code 28 = .ok (.aload_n 0, 1) := by decide +kernel
theorem d_Gr_next_29 : decode prog_2_method_4_code 29 = .ok (.aload_n 1, 1) := by decide +kernel
theorem d_Gr_next_30 : decode prog_2_method_4_code 30 = .ok (.iconst 0, 1) := by decide +kernel
theorem d_Gr_next_31 : decode prog_2_method_4_code 31 = .ok (.invokevirtual 51, 3) := by decide +kernel
theorem d_Gr_next_34 : decode prog_2_method_4_code 34 = .ok (.ireturn, 1) := by decide +kernel
theorem d_Gr_next_35 : decode prog_2_method_4_code 35 = .ok (.aload_n 0, 1) := by decide +kernel
theorem d_Gr_next_36 : decode prog_2_method_4_code 36 = .ok (.getfield 15, 3) := by decide +kernel
theorem d_Gr_next_39 : decode prog_2_method_4_code 39 = .ok (.aload_n 1, 1) := by decide +kernel
theorem d_Gr_next_40 : decode prog_2_method_4_code 40 = .ok (.getfield 28, 3) := by decide +kernel
theorem d_Gr_next_43 : decode prog_2_method_4_code 43 = .ok (.iconst 1, 1) := by decide +kernel
theorem d_Gr_next_44 : decode prog_2_method_4_code 44 = .ok (.isub, 1) := by decide +kernel
theorem d_Gr_next_45 : decode prog_2_method_4_code 45 = .ok (.iload_n 3, 1) := by decide +kernel
theorem d_Gr_next_46 : decode prog_2_method_4_code 46 = .ok (.isub, 1) := by decide +kernel
theorem d_Gr_next_47 : decode prog_2_method_4_code 47 = .ok (.iaload, 1) := by decide +kernel
theorem d_Gr_next_48 : decode prog_2_method_4_code 48 = .ok (.ireturn, 1) := by decide +kernel
theorem d_Gr_next_49 : decode prog_2_method_4_code 49 = .ok (.aload_n 0, 1) := by decide +kernel
theorem d_Gr_next_50 : decode prog_2_method_4_code 50 = .ok (.aload_n 1, 1) := by decide +kernel
theorem d_Gr_next_51 : decode prog_2_method_4_code 51 = .ok (.iconst 1, 1) := by decide +kernel
theorem d_Gr_next_52 : decode prog_2_method_4_code 52 = .ok (.invokevirtual 51, 3) := by decide +kernel
theorem d_Gr_next_55 : decode prog_2_method_4_code 55 = .ok (.ireturn, 1) := by decide +kernel
theorem d_Gr_next_56 : decode prog_2_method_4_code 56 = .ok (.iload_n 3, 1) := by decide +kernel
theorem d_Gr_next_57 : decode prog_2_method_4_code 57 = .ok (.ireturn, 1) := by decide +kernel
abbrev wd_Gr_next (cI cJ cG cZ : ClassId) (a0 a1 a0_tints a0_peeled a1_near a1_tail a1_head : Nat) (w0_tints : Nat → Int32) (w0_peeled : Nat → Int32) (v1_nodes : Int32) (v1_arcCount : Int32) (v1_version : Int32) (w1_near : Nat → Int32) : va_W := [(a0, .inr (7, [.ref a0_tints, .ref a0_peeled])), (a0_tints, .inl (cI, 12, .inl w0_tints)), (a0_peeled, .inl (cI, 12, .inl w0_peeled)), (a1, .inr (1, [.ref a1_near, .ref a1_tail, .ref a1_head, .int v1_nodes, .int v1_arcCount, .int v1_version])), (a1_near, .inl (cI, 12, .inl w1_near))]
abbrev us_Gr_next : List Cond := .code y_Gr_next prog_2_method_4_code 4 (some .int) :: gtbl
abbrev rm_Gr_next : Room := { frames := 2, cells := 0, slots := 0, locals := 50 }
def m_Gr_next (F : Nat) (w0_tints : Nat → Int32) (w0_peeled : Nat → Int32) (v1_nodes : Int32) (v1_arcCount : Int32) (v1_version : Int32) (w1_near : Nat → Int32) (p2 : Int32) (p3 : Int32) : Option (Int32) :=
  if p2 = 1 then (
    gM (m_Gr_nextByRank F w0_tints v1_nodes v1_arcCount v1_version w1_near (0 : Int32)) (fun q_2 =>
    some q_2)
  ) else (
  if p2 = 2 then (
    gC (inb ((v1_nodes - 1) - p3) 12) (
    some (w0_peeled ((v1_nodes - 1) - p3).toNatClampNeg))
  ) else (
  if p2 = 3 then (
    gM (m_Gr_nextByRank F w0_tints v1_nodes v1_arcCount v1_version w1_near (1 : Int32)) (fun q_8 =>
    some q_8)
  ) else (
  some p3
  )))
set_option maxHeartbeats 4000000 in
set_option maxRecDepth 100000 in
theorem c_Gr_next (l : Launch) (dC : Nat → ClassId) (dI : Nat → Nat → Nat) (cI cJ cG cZ : ClassId) (a0 a1 a0_tints a0_peeled a1_near a1_tail a1_head : Nat) (sz : Nat) (F : Nat) (w0_tints : Nat → Int32) (w0_peeled : Nat → Int32) (v1_nodes : Int32) (v1_arcCount : Int32) (v1_version : Int32) (w1_near : Nat → Int32) (p2 : Int32) (p3 : Int32) (ret : Int32) (hm : m_Gr_next F w0_tints w0_peeled v1_nodes v1_arcCount v1_version w1_near p2 p3 = some ret) : Met l y_Gr_next us_Gr_next rm_Gr_next (PcS (dC, dI) (tyL cI cJ cG cZ) [.ref a0, .ref a1, .int p2, .int p3] sz (wd_Gr_next cI cJ cG cZ a0 a1 a0_tints a0_peeled a1_near a1_tail a1_head w0_tints w0_peeled v1_nodes v1_arcCount v1_version w1_near)) (va_Qi (fun (r : Int32) (_ : Unit) => ret = r) (fun _ t => PoS (dC, dI) (tyL cI cJ cG cZ) (wd_Gr_next cI cJ cG cZ a0 a1 a0_tints a0_peeled a1_near a1_tail a1_head w0_tints w0_peeled v1_nodes v1_arcCount v1_version w1_near) (va_A (wd_Gr_next cI cJ cG cZ a0 a1 a0_tints a0_peeled a1_near a1_tail a1_head w0_tints w0_peeled v1_nodes v1_arcCount v1_version w1_near) sz) t) (va_A (wd_Gr_next cI cJ cG cZ a0 a1 a0_tints a0_peeled a1_near a1_tail a1_head w0_tints w0_peeled v1_nodes v1_arcCount v1_version w1_near) sz)) 0 0 (va_A (wd_Gr_next cI cJ cG cZ a0 a1 a0_tints a0_peeled a1_near a1_tail a1_head w0_tints w0_peeled v1_nodes v1_arcCount v1_version w1_near) sz) := by
  refine Met.ofW (cc := prog_2_method_4_code) (maxL := 4) (ret := (some .int)) (by decide) rfl ?_
  intro p e s m args below meth c s₁ B hml hv
  obtain ⟨rfl, hsz, hP, hK, hD0, hNw⟩ := hv
  have hx := B.exec
  have hb := B.bytes
  have hr := B.returns
  have htt : ∀ w ∈ gtbl, w.before _ s = true := fun w h => atoms_spec (ws := us_Gr_next) B.pre w (List.mem_cons_of_mem _ h)
  have hown : s.vm.findClass R_Gr = some m.cls := findClass_of_methodNamed B.named
  have hlocks := B.notSynchronized
  subst hsz
  have hD := hD0.self (sz := s.heap.size)
  generalize hAe : va_A (wd_Gr_next cI cJ cG cZ a0 a1 a0_tints a0_peeled a1_near a1_tail a1_head w0_tints w0_peeled v1_nodes v1_arcCount v1_version w1_near) s.heap.size = A at hD ⊢
  have hA : ∀ q : Nat, s.heap.size ≤ q → A q := fun q h => by rw [← hAe]; exact Or.inr h
  clear hAe hD0
  have hS : va_S A s.heap s.heap [] := va_S.rf
  have hl := lv_entry ([.ref a0, .ref a1, .int p2, .int p3]) (n := 4) (Nat.le_of_ble_eq_true rfl)
  rw [lg_entry_eq]
  generalize (lg_sl ([.ref a0, .ref a1, .int p2, .int p3]) ++ List.replicate (4 - (lg_sl ([.ref a0, .ref a1, .int p2, .int p3])).length) Slot.unset).toArray = ls at hl ⊢
  have hl : lv_has ls 4 [(0, .ref a0), (1, .ref a1), (2, .int p2), (3, .int p3)] := hl
  generalize hH : s.heap = H at hP ⊢
  have hS : va_S A s.heap H [] := hH ▸ hS
  generalize hLo : ([] : List Loc) = locs at hS ⊢
  clear hH hLo
  unfold m_Gr_next at hm
  refine lv_iload_n hx hb d_Gr_next_0 rfl (lv_at hl 2 rfl) ?_
  by_cases c_1 : p2 = 1
  · have hm := ite_t c_1 hm
    refine lv_tableIn (tgt := 28) hx hb d_Gr_next_1 (by rw [c_1]; decide) (by rw [c_1]; decide) (by rw [c_1]; rfl) (by decide) ?_
    refine lv_aload_n hx hb d_Gr_next_28 rfl (lv_at hl 0 rfl) ?_
    refine lv_aload_n hx hb d_Gr_next_29 rfl (lv_at hl 1 rfl) ?_
    refine lv_iconst (v := 0) hx hb d_Gr_next_30 (by decide) ?_
    obtain ⟨q_2, hc_3, hm⟩ := gM_e hm
    have hPc : va_P (dC, dI) vwCl (wd_Gr_nextByRank cI cJ cG cZ a0 a1 a0_tints a0_peeled a1_near a1_tail a1_head w0_tints v1_nodes v1_arcCount v1_version w1_near) H := hP.sub [0, 1, 3, 4] rfl
    have hDc : va_D A (wd_Gr_nextByRank cI cJ cG cZ a0 a1 a0_tints a0_peeled a1_near a1_tail a1_head w0_tints v1_nodes v1_arcCount v1_version w1_near) := hD.sub [0, 1, 3, 4] (by decide) rfl
    have hFc : ∀ q, va_A (wd_Gr_nextByRank cI cJ cG cZ a0 a1 a0_tints a0_peeled a1_near a1_tail a1_head w0_tints v1_nodes v1_arcCount v1_version w1_near) H.size q → A q := va_free hD hS hA [0, 1, 3, 4] rfl
    refine va_calli (va_runV (As := [.ref a1, .int 0]) (rest := []) ⟨hx, hb, hml, hown, htt⟩ (c_Gr_nextByRank l dC dI cI cJ cG cZ a0 a1 a0_tints a0_peeled a1_near a1_tail a1_head H.size F w0_tints v1_nodes v1_arcCount v1_version w1_near (0 : Int32) q_2 hc_3) (cwV 2 htt (gdV kt_597 kt_599 kp_37 kt_8 kt_600) rfl rfl rfl (by decide +kernel) ⟨(Nat.le_of_ble_eq_true rfl), (Nat.le_of_ble_eq_true rfl)⟩) ⟨PcS_blind, va_recv hK hPc (ci := 7) (q0 := 0) rfl rfl, PcS_in hPc hK hDc hNw⟩ rfl rfl hl.1 rfl (lv_room (Nat.le_of_ble_eq_true rfl)) d_Gr_next_31 ⟨Nat.zero_le _, Nat.zero_le _⟩) hS (fun q _ h => hFc q h) hFc (fun r_4 u t H1 locs ht hvm hw hB hz1 hk1 hS => ?_)
    obtain ⟨hP1, hK1, hD1⟩ := hB
    rw [ht] at hP1
    subst hw
    obtain ⟨hP, hD⟩ := va_join (wr := [(a0_peeled, .inl (cI, 12, .inl w0_peeled))]) (w1 := (wd_Gr_nextByRank cI cJ cG cZ a0 a1 a0_tints a0_peeled a1_near a1_tail a1_head w0_tints v1_nodes v1_arcCount v1_version w1_near)) hP hD [0, 1, 3, 4] [2] rfl rfl (by decide) (by decide) hk1 hFc hP1 hD1
    have hP : va_P (dC, dI) vwCl (wd_Gr_next cI cJ cG cZ a0 a1 a0_tints a0_peeled a1_near a1_tail a1_head w0_tints w0_peeled v1_nodes v1_arcCount v1_version w1_near) H1 := hP.sub [1, 2, 0, 3, 4] rfl
    have hD : va_D A (wd_Gr_next cI cJ cG cZ a0 a1 a0_tints a0_peeled a1_near a1_tail a1_head w0_tints w0_peeled v1_nodes v1_arcCount v1_version w1_near) := hD.sub [1, 2, 0, 3, 4] (by decide) rfl
    clear hP1 hK1 hD1 hk1 hPc hDc hFc ht hvm hz1
    generalize H1 = H at hP hS ⊢
    cases hm
    exact W.iret hx hb hr (fun t ht hW => ⟨⟨_, (), rfl, rfl, by rw [ht]; exact hP, va_K.moved hW.alike hK, hD⟩, hS.F ht⟩) hS.2.2 d_Gr_next_34
  have hm := ite_f c_1 hm
  by_cases c_5 : p2 = 2
  · have hm := ite_t c_5 hm
    refine lv_tableIn (tgt := 35) hx hb d_Gr_next_1 (by rw [c_5]; decide) (by rw [c_5]; decide) (by rw [c_5]; rfl) (by decide) ?_
    refine lv_aload_n hx hb d_Gr_next_35 rfl (lv_at hl 0 rfl) ?_
    refine va_get (D := (dC, dI)) (ci := 7) (v := .ref a0_peeled) (C := R_Gr) (T := T_Gr) (N := 2) hx hb htt hin_Gr hown hK hP 0 rfl rfl 1 (by decide) (htt _ kt_217) (fun _ h9 => h9) rfl d_Gr_next_36 ?_
    refine lv_aload_n hx hb d_Gr_next_39 rfl (lv_at hl 1 rfl) ?_
    refine va_get (D := (dC, dI)) (ci := 1) (v := .int v1_nodes) (C := R_Net) (T := T_Net) (N := 6) hx hb htt hin_Net hown hK hP 3 rfl rfl 3 (by decide) (htt _ kt_52) (fun _ h9 => h9) rfl d_Gr_next_40 ?_
    refine lv_iconst (v := 1) hx hb d_Gr_next_43 (by decide) ?_
    refine lv_isub hx hb d_Gr_next_44 ?_
    refine lv_iload_n hx hb d_Gr_next_45 rfl (lv_at hl 3 rfl) ?_
    refine lv_isub hx hb d_Gr_next_46 ?_
    obtain ⟨hi_6, hm⟩ := gC_e hm
    refine va_iald hx hb hK hP 2 0 rfl rfl (inb_vp hi_6) d_Gr_next_47 ?_
    cases hm
    exact W.iret hx hb hr (fun t ht hW => ⟨⟨_, (), rfl, rfl, by rw [ht]; exact hP, va_K.moved hW.alike hK, hD⟩, hS.F ht⟩) hS.2.2 d_Gr_next_48
  have hm := ite_f c_5 hm
  by_cases c_7 : p2 = 3
  · have hm := ite_t c_7 hm
    refine lv_tableIn (tgt := 49) hx hb d_Gr_next_1 (by rw [c_7]; decide) (by rw [c_7]; decide) (by rw [c_7]; rfl) (by decide) ?_
    refine lv_aload_n hx hb d_Gr_next_49 rfl (lv_at hl 0 rfl) ?_
    refine lv_aload_n hx hb d_Gr_next_50 rfl (lv_at hl 1 rfl) ?_
    refine lv_iconst (v := 1) hx hb d_Gr_next_51 (by decide) ?_
    obtain ⟨q_8, hc_9, hm⟩ := gM_e hm
    have hPc : va_P (dC, dI) vwCl (wd_Gr_nextByRank cI cJ cG cZ a0 a1 a0_tints a0_peeled a1_near a1_tail a1_head w0_tints v1_nodes v1_arcCount v1_version w1_near) H := hP.sub [0, 1, 3, 4] rfl
    have hDc : va_D A (wd_Gr_nextByRank cI cJ cG cZ a0 a1 a0_tints a0_peeled a1_near a1_tail a1_head w0_tints v1_nodes v1_arcCount v1_version w1_near) := hD.sub [0, 1, 3, 4] (by decide) rfl
    have hFc : ∀ q, va_A (wd_Gr_nextByRank cI cJ cG cZ a0 a1 a0_tints a0_peeled a1_near a1_tail a1_head w0_tints v1_nodes v1_arcCount v1_version w1_near) H.size q → A q := va_free hD hS hA [0, 1, 3, 4] rfl
    refine va_calli (va_runV (As := [.ref a1, .int 1]) (rest := []) ⟨hx, hb, hml, hown, htt⟩ (c_Gr_nextByRank l dC dI cI cJ cG cZ a0 a1 a0_tints a0_peeled a1_near a1_tail a1_head H.size F w0_tints v1_nodes v1_arcCount v1_version w1_near (1 : Int32) q_8 hc_9) (cwV 2 htt (gdV kt_597 kt_599 kp_37 kt_8 kt_600) rfl rfl rfl (by decide +kernel) ⟨(Nat.le_of_ble_eq_true rfl), (Nat.le_of_ble_eq_true rfl)⟩) ⟨PcS_blind, va_recv hK hPc (ci := 7) (q0 := 0) rfl rfl, PcS_in hPc hK hDc hNw⟩ rfl rfl hl.1 rfl (lv_room (Nat.le_of_ble_eq_true rfl)) d_Gr_next_52 ⟨Nat.zero_le _, Nat.zero_le _⟩) hS (fun q _ h => hFc q h) hFc (fun r_10 u t H1 locs ht hvm hw hB hz1 hk1 hS => ?_)
    obtain ⟨hP1, hK1, hD1⟩ := hB
    rw [ht] at hP1
    subst hw
    obtain ⟨hP, hD⟩ := va_join (wr := [(a0_peeled, .inl (cI, 12, .inl w0_peeled))]) (w1 := (wd_Gr_nextByRank cI cJ cG cZ a0 a1 a0_tints a0_peeled a1_near a1_tail a1_head w0_tints v1_nodes v1_arcCount v1_version w1_near)) hP hD [0, 1, 3, 4] [2] rfl rfl (by decide) (by decide) hk1 hFc hP1 hD1
    have hP : va_P (dC, dI) vwCl (wd_Gr_next cI cJ cG cZ a0 a1 a0_tints a0_peeled a1_near a1_tail a1_head w0_tints w0_peeled v1_nodes v1_arcCount v1_version w1_near) H1 := hP.sub [1, 2, 0, 3, 4] rfl
    have hD : va_D A (wd_Gr_next cI cJ cG cZ a0 a1 a0_tints a0_peeled a1_near a1_tail a1_head w0_tints w0_peeled v1_nodes v1_arcCount v1_version w1_near) := hD.sub [1, 2, 0, 3, 4] (by decide) rfl
    clear hP1 hK1 hD1 hk1 hPc hDc hFc ht hvm hz1
    generalize H1 = H at hP hS ⊢
    cases hm
    exact W.iret hx hb hr (fun t ht hW => ⟨⟨_, (), rfl, rfl, by rw [ht]; exact hP, va_K.moved hW.alike hK, hD⟩, hS.F ht⟩) hS.2.2 d_Gr_next_55
  have hm := ite_f c_7 hm
  have hne : p2.toInt < 1 ∨ 3 < p2.toInt := by
    have nc_1 := lv_neT (a := 1) c_1 rfl
    have nc_5 := lv_neT (a := 2) c_5 rfl
    have nc_7 := lv_neT (a := 3) c_7 rfl
    omega
  refine lv_tableOut (tgt := 56) hx hb d_Gr_next_1 hne (by decide) ?_
  refine lv_iload_n hx hb d_Gr_next_56 rfl (lv_at hl 3 rfl) ?_
  cases hm
  exact W.iret hx hb hr (fun t ht hW => ⟨⟨_, (), rfl, rfl, by rw [ht]; exact hP, va_K.moved hW.alike hK, hD⟩, hS.F ht⟩) hS.2.2 d_Gr_next_57
theorem d_CS_lowestOf_0 : decode prog_1_method_30_code 0 = .ok (.iload_n 0, 1) := by decide +kernel
theorem d_CS_lowestOf_1 : decode prog_1_method_30_code 1 = .ok (.iload_n 0, 1) := by decide +kernel
theorem d_CS_lowestOf_2 : decode prog_1_method_30_code 2 = .ok (.ineg, 1) := by decide +kernel
theorem d_CS_lowestOf_3 : decode prog_1_method_30_code 3 = .ok (.iand, 1) := by decide +kernel
theorem d_CS_lowestOf_4 : decode prog_1_method_30_code 4 = .ok (.iconst 1, 1) := by decide +kernel
theorem d_CS_lowestOf_5 : decode prog_1_method_30_code 5 = .ok (.isub, 1) := by decide +kernel
theorem d_CS_lowestOf_6 : decode prog_1_method_30_code 6 = .ok (.invokestatic 207, 3) := by decide +kernel
theorem d_CS_lowestOf_9 : decode prog_1_method_30_code 9 = .ok (.ireturn, 1) := by decide +kernel
abbrev wd_CS_lowestOf (cI cJ cG cZ : ClassId) : va_W := []
abbrev us_CS_lowestOf : List Cond := .code y_CS_lowestOf prog_1_method_30_code 1 (some .int) :: gtbl
abbrev rm_CS_lowestOf : Room := { frames := 1, cells := 0, slots := 0, locals := 20 }
def m_CS_lowestOf (F : Nat) (p0 : Int32) : Option (Int32) :=
  some (bitc ((p0 &&& (-p0)) - 1))
set_option maxHeartbeats 4000000 in
set_option maxRecDepth 100000 in
theorem c_CS_lowestOf (l : Launch) (dC : Nat → ClassId) (dI : Nat → Nat → Nat) (cI cJ cG cZ : ClassId) (sz : Nat) (F : Nat) (p0 : Int32) (ret : Int32) (hm : m_CS_lowestOf F p0 = some ret) : Met l y_CS_lowestOf us_CS_lowestOf rm_CS_lowestOf (PcS (dC, dI) (tyL cI cJ cG cZ) [.int p0] sz (wd_CS_lowestOf cI cJ cG cZ)) (va_Qi (fun (r : Int32) (_ : Unit) => ret = r) (fun _ t => PoS (dC, dI) (tyL cI cJ cG cZ) (wd_CS_lowestOf cI cJ cG cZ) (va_A (wd_CS_lowestOf cI cJ cG cZ) sz) t) (va_A (wd_CS_lowestOf cI cJ cG cZ) sz)) 0 0 (va_A (wd_CS_lowestOf cI cJ cG cZ) sz) := by
  refine Met.ofW (cc := prog_1_method_30_code) (maxL := 1) (ret := (some .int)) (by decide) rfl ?_
  intro p e s m args below meth c s₁ B hml hv
  obtain ⟨rfl, hsz, hP, hK, hD0, hNw⟩ := hv
  have hx := B.exec
  have hb := B.bytes
  have hr := B.returns
  have htt : ∀ w ∈ gtbl, w.before _ s = true := fun w h => atoms_spec (ws := us_CS_lowestOf) B.pre w (List.mem_cons_of_mem _ h)
  have hown : s.vm.findClass R_CS = some m.cls := findClass_of_methodNamed B.named
  have hlocks := B.notSynchronized
  subst hsz
  have hD := hD0.self (sz := s.heap.size)
  generalize hAe : va_A (wd_CS_lowestOf cI cJ cG cZ) s.heap.size = A at hD ⊢
  have hA : ∀ q : Nat, s.heap.size ≤ q → A q := fun q h => by rw [← hAe]; exact Or.inr h
  clear hAe hD0
  have hS : va_S A s.heap s.heap [] := va_S.rf
  have hl := lv_entry ([.int p0]) (n := 1) (Nat.le_of_ble_eq_true rfl)
  rw [lg_entry_eq]
  generalize (lg_sl ([.int p0]) ++ List.replicate (1 - (lg_sl ([.int p0])).length) Slot.unset).toArray = ls at hl ⊢
  have hl : lv_has ls 1 [(0, .int p0)] := hl
  generalize hH : s.heap = H at hP ⊢
  have hS : va_S A s.heap H [] := hH ▸ hS
  generalize hLo : ([] : List Loc) = locs at hS ⊢
  clear hH hLo
  unfold m_CS_lowestOf at hm
  refine lv_iload_n hx hb d_CS_lowestOf_0 rfl (lv_at hl 0 rfl) ?_
  refine lv_iload_n hx hb d_CS_lowestOf_1 rfl (lv_at hl 0 rfl) ?_
  refine lv_ineg hx hb d_CS_lowestOf_2 ?_
  refine lv_iand hx hb d_CS_lowestOf_3 ?_
  refine lv_iconst (v := 1) hx hb d_CS_lowestOf_4 (by decide) ?_
  refine lv_isub hx hb d_CS_lowestOf_5 ?_
  refine gx_bit hx hb hml hown htt kt_428 hK hNw hP hD hS hA hl.1 (lv_room (Nat.le_of_ble_eq_true rfl)) (Nat.le_of_ble_eq_true rfl) (Nat.le_of_ble_eq_true rfl) (Nat.zero_le _) (Nat.zero_le _) d_CS_lowestOf_6 (fun H locs hP hD hS => ?_)
  cases hm
  exact W.iret hx hb hr (fun t ht hW => ⟨⟨_, (), rfl, rfl, by rw [ht]; exact hP, va_K.moved hW.alike hK, hD⟩, hS.F ht⟩) hS.2.2 d_CS_lowestOf_9
theorem d_Gr_run_0 : decode prog_2_method_3_code 0 = .ok (.aload_n 0, 1) := by decide +kernel
theorem d_Gr_run_1 : decode prog_2_method_3_code 1 = .ok (.getfield 9, 3) := by decide +kernel
theorem d_Gr_run_4 : decode prog_2_method_3_code 4 = .ok (.iconst (-1), 1) := by decide +kernel
theorem d_Gr_run_5 : decode prog_2_method_3_code 5 = .ok (.invokestatic 18, 3) := by decide +kernel
theorem d_Gr_run_8 : decode prog_2_method_3_code 8 = .ok (.iload_n 2, 1) := by decide +kernel
theorem d_Gr_run_9 : decode prog_2_method_3_code 9 = .ok (.iconst 2, 1) := by decide +kernel
theorem d_Gr_run_10 : decode prog_2_method_3_code 10 = .ok (.if_icmp .ne 8, 3) := by decide +kernel
theorem d_Gr_run_13 : decode prog_2_method_3_code 13 = .ok (.aload_n 0, 1) := by decide +kernel
theorem d_Gr_run_14 : decode prog_2_method_3_code 14 = .ok (.aload_n 1, 1) := by decide +kernel
theorem d_Gr_run_15 : decode prog_2_method_3_code 15 = .ok (.invokevirtual 24, 3) := by decide +kernel
theorem d_Gr_run_18 : decode prog_2_method_3_code 18 = .ok (.iconst 0, 1) := by decide +kernel
theorem d_Gr_run_19 : decode prog_2_method_3_code 19 = .ok (.istore_n 3, 1) := by decide +kernel
theorem d_Gr_run_20 : decode prog_2_method_3_code 20 = .ok (.iconst 0, 1) := by decide +kernel
theorem d_Gr_run_21 : decode prog_2_method_3_code 21 = .ok (.istore 4, 2) := by decide +kernel
theorem d_Gr_run_23 : decode prog_2_method_3_code 23 = .ok (.iload 4, 2) := by decide +kernel
theorem d_Gr_run_25 : decode prog_2_method_3_code 25 = .ok (.aload_n 1, 1) := by decide +kernel
theorem d_Gr_run_26 : decode prog_2_method_3_code 26 = .ok (.getfield 28, 3) := by decide +kernel
theorem d_Gr_run_29 : decode prog_2_method_3_code 29 = .ok (.if_icmp .ge 50, 3) := by decide +kernel
theorem d_Gr_run_32 : decode prog_2_method_3_code 32 = .ok (.aload_n 0, 1) := by decide +kernel
theorem d_Gr_run_33 : decode prog_2_method_3_code 33 = .ok (.aload_n 1, 1) := by decide +kernel
theorem d_Gr_run_34 : decode prog_2_method_3_code 34 = .ok (.iload_n 2, 1) := by decide +kernel
theorem d_Gr_run_35 : decode prog_2_method_3_code 35 = .ok (.iload 4, 2) := by decide +kernel
theorem d_Gr_run_37 : decode prog_2_method_3_code 37 = .ok (.invokevirtual 34, 3) := by decide +kernel
theorem d_Gr_run_40 : decode prog_2_method_3_code 40 = .ok (.istore 5, 2) := by decide +kernel
theorem d_Gr_run_42 : decode prog_2_method_3_code 42 = .ok (.aload_n 0, 1) := by decide +kernel
theorem d_Gr_run_43 : decode prog_2_method_3_code 43 = .ok (.getfield 9, 3) := by decide +kernel
theorem d_Gr_run_46 : decode prog_2_method_3_code 46 = .ok (.iload 5, 2) := by decide +kernel
theorem d_Gr_run_48 : decode prog_2_method_3_code 48 = .ok (.aload_n 0, 1) := by decide +kernel
theorem d_Gr_run_49 : decode prog_2_method_3_code 49 = .ok (.aload_n 1, 1) := by decide +kernel
theorem d_Gr_run_50 : decode prog_2_method_3_code 50 = .ok (.iload 5, 2) := by decide +kernel
theorem d_Gr_run_52 : decode prog_2_method_3_code 52 = .ok (.invokevirtual 38, 3) := by decide +kernel
theorem d_Gr_run_55 : decode prog_2_method_3_code 55 = .ok (.iconst (-1), 1) := by decide +kernel
theorem d_Gr_run_56 : decode prog_2_method_3_code 56 = .ok (.ixor, 1) := by decide +kernel
theorem d_Gr_run_57 : decode prog_2_method_3_code 57 = .ok (.invokestatic 42, 3) := by decide +kernel
theorem d_Gr_run_60 : decode prog_2_method_3_code 60 = .ok (.iastore, 1) := by decide +kernel
theorem d_Gr_run_61 : decode prog_2_method_3_code 61 = .ok (.iload_n 3, 1) := by decide +kernel
theorem d_Gr_run_62 : decode prog_2_method_3_code 62 = .ok (.iconst 1, 1) := by decide +kernel
theorem d_Gr_run_63 : decode prog_2_method_3_code 63 = .ok (.aload_n 0, 1) := by decide +kernel
theorem d_Gr_run_64 : decode prog_2_method_3_code 64 = .ok (.getfield 9, 3) := by decide +kernel
theorem d_Gr_run_67 : decode prog_2_method_3_code 67 = .ok (.iload 5, 2) := by decide +kernel
theorem d_Gr_run_69 : decode prog_2_method_3_code 69 = .ok (.iaload, 1) := by decide +kernel
theorem d_Gr_run_70 : decode prog_2_method_3_code 70 = .ok (.ishl, 1) := by decide +kernel
theorem d_Gr_run_71 : decode prog_2_method_3_code 71 = .ok (.ior, 1) := by decide +kernel
theorem d_Gr_run_72 : decode prog_2_method_3_code 72 = .ok (.istore_n 3, 1) := by decide +kernel
theorem d_Gr_run_73 : decode prog_2_method_3_code 73 = .ok (.iinc 4 1, 3) := by decide +kernel
theorem d_Gr_run_76 : decode prog_2_method_3_code 76 = .ok (.goto (-53), 3) := by decide +kernel
theorem d_Gr_run_79 : decode prog_2_method_3_code 79 = .ok (.iload_n 3, 1) := by decide +kernel
theorem d_Gr_run_80 : decode prog_2_method_3_code 80 = .ok (.invokestatic 46, 3) := by decide +kernel
theorem d_Gr_run_83 : decode prog_2_method_3_code 83 = .ok (.ireturn, 1) := by decide +kernel
abbrev wd_Gr_run (cI cJ cG cZ : ClassId) (a0 a1 a0_tints a0_peeled a1_near a1_tail a1_head : Nat) (w0_tints : Nat → Int32) (w0_peeled : Nat → Int32) (v1_nodes : Int32) (v1_arcCount : Int32) (v1_version : Int32) (w1_near : Nat → Int32) : va_W := [(a0, .inr (7, [.ref a0_tints, .ref a0_peeled])), (a0_tints, .inl (cI, 12, .inl w0_tints)), (a0_peeled, .inl (cI, 12, .inl w0_peeled)), (a1, .inr (1, [.ref a1_near, .ref a1_tail, .ref a1_head, .int v1_nodes, .int v1_arcCount, .int v1_version])), (a1_near, .inl (cI, 12, .inl w1_near))]
abbrev us_Gr_run : List Cond := .code y_Gr_run prog_2_method_3_code 6 (some .int) :: gtbl
abbrev rm_Gr_run : Room := { frames := 3, cells := 0, slots := 0, locals := 73 }
def m_Gr_run (F : Nat) (w0_tints : Nat → Int32) (w0_peeled : Nat → Int32) (v1_nodes : Int32) (v1_arcCount : Int32) (v1_version : Int32) (w1_near : Nat → Int32) (p2 : Int32) : Option (Int32 × (Nat → Int32) × (Nat → Int32)) :=
  gB (α := (Nat → Int32) → Option (Int32 × (Nat → Int32) × (Nat → Int32))) (fun w0_peeled_1 =>
    gL (fun (k_23 : (Int32 × Int32 × (Nat → Int32)) → Option (Int32 × (Nat → Int32) × (Nat → Int32))) (z_23 : Int32 × Int32 × (Nat → Int32)) => match z_23 with
    | (x3_2, x4_3, w0_tints_4) =>
    if v1_nodes ≤ x4_3 then (
      some (bitc x3_2, w0_tints_4, w0_peeled_1)
    ) else (
      gM (m_Gr_next F w0_tints_4 w0_peeled_1 v1_nodes v1_arcCount v1_version w1_near p2 x4_3) (fun q_6 =>
      gM (m_Gr_coloursNear F w0_tints_4 v1_nodes v1_arcCount v1_version w1_near q_6) (fun q_9 =>
      gM (m_CS_lowestOf F (q_9 ^^^ (-1))) (fun q_12 =>
      gC (inb q_6 12) (
      gC (inb q_6 12) (
      gB (x3_2 ||| ((1 : Int32) <<< (((upd w0_tints_4 q_6.toNatClampNeg q_12) q_6.toNatClampNeg) &&& 31))) (fun x3_17 =>
      gB (x4_3 + 1) (fun x4_18 =>
      k_23 (x3_17, x4_18, upd w0_tints_4 q_6.toNatClampNeg q_12))))))))
    )
    ) F (0, 0, fillA 12 ((-1) : Int32) w0_tints)
  ) (fun J_18 =>
  if p2 = (2 : Int32) then (
    gM (m_Gr_peel F w0_peeled v1_nodes v1_arcCount v1_version w1_near) (fun w0_peeled_20 =>
    J_18 w0_peeled_20)
  ) else (
    J_18 w0_peeled
  )
  )
set_option maxHeartbeats 4000000 in
set_option maxRecDepth 100000 in
theorem c_Gr_run (l : Launch) (dC : Nat → ClassId) (dI : Nat → Nat → Nat) (cI cJ cG cZ : ClassId) (a0 a1 a0_tints a0_peeled a1_near a1_tail a1_head : Nat) (sz : Nat) (F : Nat) (w0_tints : Nat → Int32) (w0_peeled : Nat → Int32) (v1_nodes : Int32) (v1_arcCount : Int32) (v1_version : Int32) (w1_near : Nat → Int32) (p2 : Int32) (ret : Int32) (o_w0_tints : Nat → Int32) (o_w0_peeled : Nat → Int32) (hm : m_Gr_run F w0_tints w0_peeled v1_nodes v1_arcCount v1_version w1_near p2 = some (ret, o_w0_tints, o_w0_peeled)) : Met l y_Gr_run us_Gr_run rm_Gr_run (PcS (dC, dI) (tyL cI cJ cG cZ) [.ref a0, .ref a1, .int p2] sz (wd_Gr_run cI cJ cG cZ a0 a1 a0_tints a0_peeled a1_near a1_tail a1_head w0_tints w0_peeled v1_nodes v1_arcCount v1_version w1_near)) (va_Qi (fun (r : Int32) (_ : Unit) => ret = r) (fun _ t => PoS (dC, dI) (tyL cI cJ cG cZ) (wd_Gr_run cI cJ cG cZ a0 a1 a0_tints a0_peeled a1_near a1_tail a1_head o_w0_tints o_w0_peeled v1_nodes v1_arcCount v1_version w1_near) (va_A (wd_Gr_run cI cJ cG cZ a0 a1 a0_tints a0_peeled a1_near a1_tail a1_head w0_tints w0_peeled v1_nodes v1_arcCount v1_version w1_near) sz) t) (va_A (wd_Gr_run cI cJ cG cZ a0 a1 a0_tints a0_peeled a1_near a1_tail a1_head w0_tints w0_peeled v1_nodes v1_arcCount v1_version w1_near) sz)) 0 0 (va_A (wd_Gr_run cI cJ cG cZ a0 a1 a0_tints a0_peeled a1_near a1_tail a1_head w0_tints w0_peeled v1_nodes v1_arcCount v1_version w1_near) sz) := by
  refine Met.ofW (cc := prog_2_method_3_code) (maxL := 6) (ret := (some .int)) (by decide) rfl ?_
  intro p e s m args below meth c s₁ B hml hv
  obtain ⟨rfl, hsz, hP, hK, hD0, hNw⟩ := hv
  have hx := B.exec
  have hb := B.bytes
  have hr := B.returns
  have htt : ∀ w ∈ gtbl, w.before _ s = true := fun w h => atoms_spec (ws := us_Gr_run) B.pre w (List.mem_cons_of_mem _ h)
  have hown : s.vm.findClass R_Gr = some m.cls := findClass_of_methodNamed B.named
  have hlocks := B.notSynchronized
  subst hsz
  have hD := hD0.self (sz := s.heap.size)
  generalize hAe : va_A (wd_Gr_run cI cJ cG cZ a0 a1 a0_tints a0_peeled a1_near a1_tail a1_head w0_tints w0_peeled v1_nodes v1_arcCount v1_version w1_near) s.heap.size = A at hD ⊢
  have hA : ∀ q : Nat, s.heap.size ≤ q → A q := fun q h => by rw [← hAe]; exact Or.inr h
  clear hAe hD0
  have hS : va_S A s.heap s.heap [] := va_S.rf
  have hl := lv_entry ([.ref a0, .ref a1, .int p2]) (n := 6) (Nat.le_of_ble_eq_true rfl)
  rw [lg_entry_eq]
  generalize (lg_sl ([.ref a0, .ref a1, .int p2]) ++ List.replicate (6 - (lg_sl ([.ref a0, .ref a1, .int p2])).length) Slot.unset).toArray = ls at hl ⊢
  have hl : lv_has ls 6 [(0, .ref a0), (1, .ref a1), (2, .int p2)] := hl
  generalize hH : s.heap = H at hP ⊢
  have hS : va_S A s.heap H [] := hH ▸ hS
  generalize hLo : ([] : List Loc) = locs at hS ⊢
  clear hH hLo
  unfold m_Gr_run at hm
  refine lv_aload_n hx hb d_Gr_run_0 rfl (lv_at hl 0 rfl) ?_
  refine va_get (D := (dC, dI)) (ci := 7) (v := .ref a0_tints) (C := R_Gr) (T := T_Gr) (N := 2) hx hb htt hin_Gr hown hK hP 0 rfl rfl 0 (by decide) (htt _ kt_215) (fun _ h9 => h9) rfl d_Gr_run_1 ?_
  refine lv_iconst (v := (-1)) hx hb d_Gr_run_4 (by decide) ?_
  refine gx_filli hx hb hml hown htt kt_212 hK hNw hP hD hS hA 1 rfl (by decide) hl.1 (lv_room (Nat.le_of_ble_eq_true rfl)) (Nat.le_of_ble_eq_true rfl) (Nat.le_of_ble_eq_true rfl) (Nat.zero_le _) (Nat.zero_le _) d_Gr_run_5 (fun H locs hP hD hS => ?_)
  have hP : va_P (dC, dI) vwCl (wd_Gr_run cI cJ cG cZ a0 a1 a0_tints a0_peeled a1_near a1_tail a1_head (fillA 12 ((-1) : Int32) w0_tints) w0_peeled v1_nodes v1_arcCount v1_version w1_near) H := hP
  have hD : va_D A (wd_Gr_run cI cJ cG cZ a0 a1 a0_tints a0_peeled a1_near a1_tail a1_head (fillA 12 ((-1) : Int32) w0_tints) w0_peeled v1_nodes v1_arcCount v1_version w1_near) := hD
  refine lv_iload_n hx hb d_Gr_run_8 rfl (lv_at hl 2 rfl) ?_
  refine lv_iconst (v := 2) hx hb d_Gr_run_9 (by decide) ?_
  obtain ⟨J_18, hJ_18, hm⟩ := gB_x hm
  have jp_18 : ∀ (w0_peeled_1 : Nat → Int32) (ls : Array Slot) (H : Heap) (locs : List Loc), J_18 w0_peeled_1 = some (ret, o_w0_tints, o_w0_peeled) → lv_has ls 6 [(0, .ref a0), (1, .ref a1), (2, .int p2)] → va_P (dC, dI) vwCl (wd_Gr_run cI cJ cG cZ a0 a1 a0_tints a0_peeled a1_near a1_tail a1_head (fillA 12 ((-1) : Int32) w0_tints) w0_peeled_1 v1_nodes v1_arcCount v1_version w1_near) H → va_D A (wd_Gr_run cI cJ cG cZ a0 a1 a0_tints a0_peeled a1_near a1_tail a1_head (fillA 12 ((-1) : Int32) w0_tints) w0_peeled_1 v1_nodes v1_arcCount v1_version w1_near) → va_S A s.heap H locs → W p l e (headSpec us_Gr_run rm_Gr_run).room s m ([.ref a0, .ref a1, .int p2] : List Value).toArray below meth c H locs 0 0 (MQ below (va_Qi (fun (r : Int32) (_ : Unit) => ret = r) (fun _ t => PoS (dC, dI) (tyL cI cJ cG cZ) (wd_Gr_run cI cJ cG cZ a0 a1 a0_tints a0_peeled a1_near a1_tail a1_head o_w0_tints o_w0_peeled v1_nodes v1_arcCount v1_version w1_near) A t) A) ([.ref a0, .ref a1, .int p2] : List Value).toArray s 0 0 A) (F0 m 18 ls []) := by
    intro w0_peeled_1 ls H locs hm hl hP hD hS
    have hm := jn1 hJ_18 hm
    refine lv_iconst (v := 0) hx hb d_Gr_run_18 (by decide) ?_
    refine lv_istore_n (lv' := [(3, .int 0), (0, .ref a0), (1, .ref a1), (2, .int p2)]) hx hb d_Gr_run_19 rfl hl (by decide) rfl (fun ls hl => ?_)
    refine lv_iconst (v := 0) hx hb d_Gr_run_20 (by decide) ?_
    refine lv_istore (lv' := [(4, .int 0), (3, .int 0), (0, .ref a0), (1, .ref a1), (2, .int p2)]) hx hb d_Gr_run_21 hl (by decide) rfl (fun ls hl => ?_)
    refine gL_e (P := (fun (z_23 : Int32 × Int32 × (Nat → Int32)) => ∀ (x3_2 : Int32), ∀ (x4_3 : Int32), ∀ (w0_tints_4 : Nat → Int32), z_23 = (x3_2, x4_3, w0_tints_4) → ∀ (ls : Array Slot) (H : Heap) (locs : List Loc), lv_has ls 6 [(0, .ref a0), (1, .ref a1), (2, .int p2), (3, .int x3_2), (4, .int x4_3)] → va_P (dC, dI) vwCl (wd_Gr_run cI cJ cG cZ a0 a1 a0_tints a0_peeled a1_near a1_tail a1_head w0_tints_4 w0_peeled_1 v1_nodes v1_arcCount v1_version w1_near) H → va_D A (wd_Gr_run cI cJ cG cZ a0 a1 a0_tints a0_peeled a1_near a1_tail a1_head w0_tints_4 w0_peeled_1 v1_nodes v1_arcCount v1_version w1_near) → va_S A s.heap H locs → W p l e (headSpec us_Gr_run rm_Gr_run).room s m ([.ref a0, .ref a1, .int p2] : List Value).toArray below meth c H locs 0 0 (MQ below (va_Qi (fun (r : Int32) (_ : Unit) => ret = r) (fun _ t => PoS (dC, dI) (tyL cI cJ cG cZ) (wd_Gr_run cI cJ cG cZ a0 a1 a0_tints a0_peeled a1_near a1_tail a1_head o_w0_tints o_w0_peeled v1_nodes v1_arcCount v1_version w1_near) A t) A) ([.ref a0, .ref a1, .int p2] : List Value).toArray s 0 0 A) (F0 m 23 ls []))) hm (fun k_23 z_23 ih_23 hm => ?_) _ _ _ rfl ls H locs (lv_sub hl [2, 3, 4, 1, 0] rfl) hP hD hS
    intro x3_2 x4_3 w0_tints_4 hz ls H locs hl hP hD hS
    subst hz
    dsimp only at hm
    refine lv_iload hx hb d_Gr_run_23 (lv_at hl 4 rfl) ?_
    refine lv_aload_n hx hb d_Gr_run_25 rfl (lv_at hl 1 rfl) ?_
    refine va_get (D := (dC, dI)) (ci := 1) (v := .int v1_nodes) (C := R_Net) (T := T_Net) (N := 6) hx hb htt hin_Net hown hK hP 3 rfl rfl 3 (by decide) (htt _ kt_52) (fun _ h9 => h9) rfl d_Gr_run_26 ?_
    refine lv_icmp_ge (tgt := 79) hx hb d_Gr_run_29 (by decide) (fun c_5 => ?_) (fun c_5 => ?_)
    · have hm := ite_t c_5 hm
      refine lv_iload_n hx hb d_Gr_run_79 rfl (lv_at hl 3 rfl) ?_
      refine gx_bit hx hb hml hown htt kt_592 hK hNw hP hD hS hA hl.1 (lv_room (Nat.le_of_ble_eq_true rfl)) (Nat.le_of_ble_eq_true rfl) (Nat.le_of_ble_eq_true rfl) (Nat.zero_le _) (Nat.zero_le _) d_Gr_run_80 (fun H locs hP hD hS => ?_)
      cases hm
      exact W.iret hx hb hr (fun t ht hW => ⟨⟨_, (), rfl, rfl, by rw [ht]; exact hP, va_K.moved hW.alike hK, hD⟩, hS.F ht⟩) hS.2.2 d_Gr_run_83
    · have hm := ite_f c_5 hm
      refine lv_aload_n hx hb d_Gr_run_32 rfl (lv_at hl 0 rfl) ?_
      refine lv_aload_n hx hb d_Gr_run_33 rfl (lv_at hl 1 rfl) ?_
      refine lv_iload_n hx hb d_Gr_run_34 rfl (lv_at hl 2 rfl) ?_
      refine lv_iload hx hb d_Gr_run_35 (lv_at hl 4 rfl) ?_
      obtain ⟨q_6, hc_7, hm⟩ := gM_e hm
      have hPc : va_P (dC, dI) vwCl (wd_Gr_next cI cJ cG cZ a0 a1 a0_tints a0_peeled a1_near a1_tail a1_head w0_tints_4 w0_peeled_1 v1_nodes v1_arcCount v1_version w1_near) H := hP.sub [0, 1, 2, 3, 4] rfl
      have hDc : va_D A (wd_Gr_next cI cJ cG cZ a0 a1 a0_tints a0_peeled a1_near a1_tail a1_head w0_tints_4 w0_peeled_1 v1_nodes v1_arcCount v1_version w1_near) := hD.sub [0, 1, 2, 3, 4] (by decide) rfl
      have hFc : ∀ q, va_A (wd_Gr_next cI cJ cG cZ a0 a1 a0_tints a0_peeled a1_near a1_tail a1_head w0_tints_4 w0_peeled_1 v1_nodes v1_arcCount v1_version w1_near) H.size q → A q := va_free hD hS hA [0, 1, 2, 3, 4] rfl
      refine va_calli (va_runV (As := [.ref a1, .int p2, .int x4_3]) (rest := []) ⟨hx, hb, hml, hown, htt⟩ (c_Gr_next l dC dI cI cJ cG cZ a0 a1 a0_tints a0_peeled a1_near a1_tail a1_head H.size F w0_tints_4 w0_peeled_1 v1_nodes v1_arcCount v1_version w1_near p2 x4_3 q_6 hc_7) (cwV 3 htt (gdV kt_593 kt_595 kp_36 kt_8 kt_596) rfl rfl rfl (by decide +kernel) ⟨(Nat.le_of_ble_eq_true rfl), (Nat.le_of_ble_eq_true rfl)⟩) ⟨PcS_blind, va_recv hK hPc (ci := 7) (q0 := 0) rfl rfl, PcS_in hPc hK hDc hNw⟩ rfl rfl hl.1 rfl (lv_room (Nat.le_of_ble_eq_true rfl)) d_Gr_run_37 ⟨Nat.zero_le _, Nat.zero_le _⟩) hS (fun q _ h => hFc q h) hFc (fun r_8 u t H1 locs ht hvm hw hB hz1 hk1 hS => ?_)
      obtain ⟨hP1, hK1, hD1⟩ := hB
      rw [ht] at hP1
      subst hw
      obtain ⟨hP, hD⟩ := va_join (wr := []) (w1 := (wd_Gr_next cI cJ cG cZ a0 a1 a0_tints a0_peeled a1_near a1_tail a1_head w0_tints_4 w0_peeled_1 v1_nodes v1_arcCount v1_version w1_near)) hP hD [0, 1, 2, 3, 4] [] rfl rfl (by decide) (by decide) hk1 hFc hP1 hD1
      have hP : va_P (dC, dI) vwCl (wd_Gr_run cI cJ cG cZ a0 a1 a0_tints a0_peeled a1_near a1_tail a1_head w0_tints_4 w0_peeled_1 v1_nodes v1_arcCount v1_version w1_near) H1 := hP.sub [0, 1, 2, 3, 4] rfl
      have hD : va_D A (wd_Gr_run cI cJ cG cZ a0 a1 a0_tints a0_peeled a1_near a1_tail a1_head w0_tints_4 w0_peeled_1 v1_nodes v1_arcCount v1_version w1_near) := hD.sub [0, 1, 2, 3, 4] (by decide) rfl
      clear hP1 hK1 hD1 hk1 hPc hDc hFc ht hvm hz1
      generalize H1 = H at hP hS ⊢
      refine lv_istore (lv' := [(5, .int q_6), (0, .ref a0), (1, .ref a1), (2, .int p2), (3, .int x3_2), (4, .int x4_3)]) hx hb d_Gr_run_40 hl (by decide) rfl (fun ls hl => ?_)
      refine lv_aload_n hx hb d_Gr_run_42 rfl (lv_at hl 1 rfl) ?_
      refine va_get (D := (dC, dI)) (ci := 7) (v := .ref a0_tints) (C := R_Gr) (T := T_Gr) (N := 2) hx hb htt hin_Gr hown hK hP 0 rfl rfl 0 (by decide) (htt _ kt_215) (fun _ h9 => h9) rfl d_Gr_run_43 ?_
      refine lv_iload hx hb d_Gr_run_46 (lv_at hl 0 rfl) ?_
      refine lv_aload_n hx hb d_Gr_run_48 rfl (lv_at hl 1 rfl) ?_
      refine lv_aload_n hx hb d_Gr_run_49 rfl (lv_at hl 2 rfl) ?_
      refine lv_iload hx hb d_Gr_run_50 (lv_at hl 0 rfl) ?_
      obtain ⟨q_9, hc_10, hm⟩ := gM_e hm
      have hPc : va_P (dC, dI) vwCl (wd_Gr_coloursNear cI cJ cG cZ a0 a1 a0_tints a0_peeled a1_near a1_tail a1_head w0_tints_4 v1_nodes v1_arcCount v1_version w1_near) H := hP.sub [0, 1, 3, 4] rfl
      have hDc : va_D A (wd_Gr_coloursNear cI cJ cG cZ a0 a1 a0_tints a0_peeled a1_near a1_tail a1_head w0_tints_4 v1_nodes v1_arcCount v1_version w1_near) := hD.sub [0, 1, 3, 4] (by decide) rfl
      have hFc : ∀ q, va_A (wd_Gr_coloursNear cI cJ cG cZ a0 a1 a0_tints a0_peeled a1_near a1_tail a1_head w0_tints_4 v1_nodes v1_arcCount v1_version w1_near) H.size q → A q := va_free hD hS hA [0, 1, 3, 4] rfl
      refine va_calli (va_runV (As := [.ref a1, .int q_6]) (rest := [.int q_6, .ref a0_tints]) ⟨hx, hb, hml, hown, htt⟩ (c_Gr_coloursNear l dC dI cI cJ cG cZ a0 a1 a0_tints a0_peeled a1_near a1_tail a1_head H.size F w0_tints_4 v1_nodes v1_arcCount v1_version w1_near q_6 q_9 hc_10) (cwV 2 htt (gdV kt_601 kt_603 kp_38 kt_8 kt_604) rfl rfl rfl (by decide +kernel) ⟨(Nat.le_of_ble_eq_true rfl), (Nat.le_of_ble_eq_true rfl)⟩) ⟨PcS_blind, va_recv hK hPc (ci := 7) (q0 := 0) rfl rfl, PcS_in hPc hK hDc hNw⟩ rfl rfl hl.1 rfl (lv_room (Nat.le_of_ble_eq_true rfl)) d_Gr_run_52 ⟨Nat.zero_le _, Nat.zero_le _⟩) hS (fun q _ h => hFc q h) hFc (fun r_11 u t H1 locs ht hvm hw hB hz1 hk1 hS => ?_)
      obtain ⟨hP1, hK1, hD1⟩ := hB
      rw [ht] at hP1
      subst hw
      obtain ⟨hP, hD⟩ := va_join (wr := [(a0_peeled, .inl (cI, 12, .inl w0_peeled_1))]) (w1 := (wd_Gr_coloursNear cI cJ cG cZ a0 a1 a0_tints a0_peeled a1_near a1_tail a1_head w0_tints_4 v1_nodes v1_arcCount v1_version w1_near)) hP hD [0, 1, 3, 4] [2] rfl rfl (by decide) (by decide) hk1 hFc hP1 hD1
      have hP : va_P (dC, dI) vwCl (wd_Gr_run cI cJ cG cZ a0 a1 a0_tints a0_peeled a1_near a1_tail a1_head w0_tints_4 w0_peeled_1 v1_nodes v1_arcCount v1_version w1_near) H1 := hP.sub [1, 2, 0, 3, 4] rfl
      have hD : va_D A (wd_Gr_run cI cJ cG cZ a0 a1 a0_tints a0_peeled a1_near a1_tail a1_head w0_tints_4 w0_peeled_1 v1_nodes v1_arcCount v1_version w1_near) := hD.sub [1, 2, 0, 3, 4] (by decide) rfl
      clear hP1 hK1 hD1 hk1 hPc hDc hFc ht hvm hz1
      generalize H1 = H at hP hS ⊢
      refine lv_iconst (v := (-1)) hx hb d_Gr_run_55 (by decide) ?_
      refine lv_ixor hx hb d_Gr_run_56 ?_
      obtain ⟨q_12, hc_13, hm⟩ := gM_e hm
      have hPc : va_P (dC, dI) vwCl (wd_CS_lowestOf cI cJ cG cZ) H := hP.sub [] rfl
      have hDc : va_D A (wd_CS_lowestOf cI cJ cG cZ) := hD.sub [] (by decide) rfl
      have hFc : ∀ q, va_A (wd_CS_lowestOf cI cJ cG cZ) H.size q → A q := va_free hD hS hA [] rfl
      refine va_calli (va_runSN (host := R_CS) (As := [.int (q_9 ^^^ (-1))]) (rest := [.int q_6, .ref a0_tints]) ⟨hx, hb, hml, hown, htt⟩ (c_CS_lowestOf l dC dI cI cJ cG cZ H.size F (q_9 ^^^ (-1)) q_12 hc_13) ⟨va_cnB 1 htt (gdN kt_427) rfl rfl rfl (hNw _ kt_605) (htt _ kt_1) (by decide +kernel) ⟨(Nat.le_of_ble_eq_true rfl), (Nat.le_of_ble_eq_true rfl)⟩, htt _ kt_426, trivial⟩ ⟨PcS_blind, PcS_in hPc hK hDc hNw⟩ rfl rfl hl.1 rfl (lv_room (Nat.le_of_ble_eq_true rfl)) d_Gr_run_57 ⟨Nat.zero_le _, Nat.zero_le _⟩) hS (fun q _ h => hFc q h) hFc (fun r_14 u t H1 locs ht hvm hw hB hz1 hk1 hS => ?_)
      obtain ⟨hP1, hK1, hD1⟩ := hB
      rw [ht] at hP1
      subst hw
      obtain ⟨hP, hD⟩ := va_join (wr := [(a0, .inr (7, [.ref a0_tints, .ref a0_peeled])), (a0_tints, .inl (cI, 12, .inl w0_tints_4)), (a0_peeled, .inl (cI, 12, .inl w0_peeled_1)), (a1, .inr (1, [.ref a1_near, .ref a1_tail, .ref a1_head, .int v1_nodes, .int v1_arcCount, .int v1_version])), (a1_near, .inl (cI, 12, .inl w1_near))]) (w1 := (wd_CS_lowestOf cI cJ cG cZ)) hP hD [] [0, 1, 2, 3, 4] rfl rfl (by decide) (by decide) hk1 hFc hP1 hD1
      have hP : va_P (dC, dI) vwCl (wd_Gr_run cI cJ cG cZ a0 a1 a0_tints a0_peeled a1_near a1_tail a1_head w0_tints_4 w0_peeled_1 v1_nodes v1_arcCount v1_version w1_near) H1 := hP.sub [0, 1, 2, 3, 4] rfl
      have hD : va_D A (wd_Gr_run cI cJ cG cZ a0 a1 a0_tints a0_peeled a1_near a1_tail a1_head w0_tints_4 w0_peeled_1 v1_nodes v1_arcCount v1_version w1_near) := hD.sub [0, 1, 2, 3, 4] (by decide) rfl
      clear hP1 hK1 hD1 hk1 hPc hDc hFc ht hvm hz1
      generalize H1 = H at hP hS ⊢
      obtain ⟨hi_15, hm⟩ := gC_e hm
      refine va_iast hx hb hK hP hD hS 1 0 rfl rfl (inb_vp hi_15) d_Gr_run_60 (fun H locs hP hD hS => ?_)
      have hP : va_P (dC, dI) vwCl (wd_Gr_run cI cJ cG cZ a0 a1 a0_tints a0_peeled a1_near a1_tail a1_head (upd w0_tints_4 q_6.toNatClampNeg q_12) w0_peeled_1 v1_nodes v1_arcCount v1_version w1_near) H := hP
      have hD : va_D A (wd_Gr_run cI cJ cG cZ a0 a1 a0_tints a0_peeled a1_near a1_tail a1_head (upd w0_tints_4 q_6.toNatClampNeg q_12) w0_peeled_1 v1_nodes v1_arcCount v1_version w1_near) := hD
      refine lv_iload_n hx hb d_Gr_run_61 rfl (lv_at hl 4 rfl) ?_
      refine lv_iconst (v := 1) hx hb d_Gr_run_62 (by decide) ?_
      refine lv_aload_n hx hb d_Gr_run_63 rfl (lv_at hl 1 rfl) ?_
      refine va_get (D := (dC, dI)) (ci := 7) (v := .ref a0_tints) (C := R_Gr) (T := T_Gr) (N := 2) hx hb htt hin_Gr hown hK hP 0 rfl rfl 0 (by decide) (htt _ kt_215) (fun _ h9 => h9) rfl d_Gr_run_64 ?_
      refine lv_iload hx hb d_Gr_run_67 (lv_at hl 0 rfl) ?_
      obtain ⟨hi_16, hm⟩ := gC_e hm
      refine va_iald hx hb hK hP 1 0 rfl rfl (inb_vp hi_16) d_Gr_run_69 ?_
      refine lv_ishl hx hb d_Gr_run_70 ?_
      refine lv_ior hx hb d_Gr_run_71 ?_
      refine lv_topi (fun x3_17 ex3_17 => ?_)
      have hm := gB_at ex3_17 hm
      refine lv_istore_n (lv' := [(3, .int x3_17), (5, .int q_6), (0, .ref a0), (1, .ref a1), (2, .int p2), (4, .int x4_3)]) hx hb d_Gr_run_72 rfl hl (by decide) rfl (fun ls hl => ?_)
      obtain ⟨x4_18, ex4_18⟩ : ∃ y : Int32, y = x4_3 + 1 := ⟨_, rfl⟩
      have hm := gB_at ex4_18 hm
      refine lv_iinc (v := x4_18) (lv' := [(4, .int x4_18), (3, .int x3_17), (5, .int q_6), (0, .ref a0), (1, .ref a1), (2, .int p2)]) hx hb d_Gr_run_73 hl (k := 5) rfl (by rw [ex4_18]; rfl) (by decide) rfl (fun ls hl => ?_)
      refine lv_goto (tgt := 23) hx hb d_Gr_run_76 (by decide) ?_
      exact ih_23 _ hm _ _ _ rfl ls H locs (lv_sub hl [3, 4, 5, 1, 0] rfl) hP hD hS
  clear hJ_18
  refine lv_icmp_ne (tgt := 18) hx hb d_Gr_run_10 (by decide) (fun c_19 => ?_) (fun c_19 => ?_)
  · have hm := ite_f c_19 hm
    exact jp_18 _ ls H locs hm (lv_sub hl [0, 1, 2] rfl) hP hD hS
  · have hm := ite_t c_19 hm
    refine lv_aload_n hx hb d_Gr_run_13 rfl (lv_at hl 0 rfl) ?_
    refine lv_aload_n hx hb d_Gr_run_14 rfl (lv_at hl 1 rfl) ?_
    obtain ⟨w0_peeled_20, hc_21, hm⟩ := gM_e hm
    have hPc : va_P (dC, dI) vwCl (wd_Gr_peel cI cJ cG cZ a0 a1 a0_tints a0_peeled a1_near a1_tail a1_head w0_peeled v1_nodes v1_arcCount v1_version w1_near) H := hP.sub [0, 2, 3, 4] rfl
    have hDc : va_D A (wd_Gr_peel cI cJ cG cZ a0 a1 a0_tints a0_peeled a1_near a1_tail a1_head w0_peeled v1_nodes v1_arcCount v1_version w1_near) := hD.sub [0, 2, 3, 4] (by decide) rfl
    have hFc : ∀ q, va_A (wd_Gr_peel cI cJ cG cZ a0 a1 a0_tints a0_peeled a1_near a1_tail a1_head w0_peeled v1_nodes v1_arcCount v1_version w1_near) H.size q → A q := va_free hD hS hA [0, 2, 3, 4] rfl
    refine va_callv (va_runV (As := [.ref a1]) (rest := []) ⟨hx, hb, hml, hown, htt⟩ (c_Gr_peel l dC dI cI cJ cG cZ a0 a1 a0_tints a0_peeled a1_near a1_tail a1_head H.size F w0_peeled v1_nodes v1_arcCount v1_version w1_near w0_peeled_20 hc_21) (cwV 1 htt (gdV kt_587 kt_589 kp_35 kt_8 kt_590) rfl rfl rfl (by decide +kernel) ⟨(Nat.le_of_ble_eq_true rfl), (Nat.le_of_ble_eq_true rfl)⟩) ⟨PcS_blind, va_recv hK hPc (ci := 7) (q0 := 0) rfl rfl, PcS_in hPc hK hDc hNw⟩ rfl rfl hl.1 rfl (lv_room (Nat.le_of_ble_eq_true rfl)) d_Gr_run_15 ⟨Nat.zero_le _, Nat.zero_le _⟩) hS (fun q _ h => hFc q h) hFc (fun u t H1 locs ht hvm hw hB hz1 hk1 hS => ?_)
    obtain ⟨hP1, hK1, hD1⟩ := hB
    rw [ht] at hP1
    obtain ⟨hP, hD⟩ := va_join (wr := [(a0_tints, .inl (cI, 12, .inl (fillA 12 ((-1) : Int32) w0_tints)))]) (w1 := (wd_Gr_peel cI cJ cG cZ a0 a1 a0_tints a0_peeled a1_near a1_tail a1_head w0_peeled_20 v1_nodes v1_arcCount v1_version w1_near)) hP hD [0, 2, 3, 4] [1] rfl rfl (by decide) (by decide) hk1 hFc hP1 hD1
    have hP : va_P (dC, dI) vwCl (wd_Gr_run cI cJ cG cZ a0 a1 a0_tints a0_peeled a1_near a1_tail a1_head (fillA 12 ((-1) : Int32) w0_tints) w0_peeled_20 v1_nodes v1_arcCount v1_version w1_near) H1 := hP.sub [1, 0, 2, 3, 4] rfl
    have hD : va_D A (wd_Gr_run cI cJ cG cZ a0 a1 a0_tints a0_peeled a1_near a1_tail a1_head (fillA 12 ((-1) : Int32) w0_tints) w0_peeled_20 v1_nodes v1_arcCount v1_version w1_near) := hD.sub [1, 0, 2, 3, 4] (by decide) rfl
    clear hP1 hK1 hD1 hk1 hPc hDc hFc ht hvm hz1
    generalize H1 = H at hP hS ⊢
    exact jp_18 _ ls H locs hm (lv_sub hl [0, 1, 2] rfl) hP hD hS
