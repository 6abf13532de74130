theorem d_LC_weighSetsOf_0 : decode prog_3_method_7_code 0 = .ok (.iconst 1, 1) := by decide +kernel
theorem d_LC_weighSetsOf_1 : decode prog_3_method_7_code 1 = .ok (.iload_n 2, 1) := by decide +kernel
theorem d_LC_weighSetsOf_2 : decode prog_3_method_7_code 2 = .ok (.invokestatic 82, 3) := by decide +kernel
theorem d_LC_weighSetsOf_5 : decode prog_3_method_7_code 5 = .ok (.ishl, 1) := by decide +kernel
theorem d_LC_weighSetsOf_6 : decode prog_3_method_7_code 6 = .ok (.istore_n 3, 1) := by decide +kernel
theorem d_LC_weighSetsOf_7 : decode prog_3_method_7_code 7 = .ok (.iconst 0, 1) := by decide +kernel
theorem d_LC_weighSetsOf_8 : decode prog_3_method_7_code 8 = .ok (.istore 4, 2) := by decide +kernel
theorem d_LC_weighSetsOf_10 : decode prog_3_method_7_code 10 = .ok (.aload_n 0, 1) := by decide +kernel
theorem d_LC_weighSetsOf_11 : decode prog_3_method_7_code 11 = .ok (.getfield 15, 3) := by decide +kernel
theorem d_LC_weighSetsOf_14 : decode prog_3_method_7_code 14 = .ok (.iconst 0, 1) := by decide +kernel
theorem d_LC_weighSetsOf_15 : decode prog_3_method_7_code 15 = .ok (.iconst 0, 1) := by decide +kernel
theorem d_LC_weighSetsOf_16 : decode prog_3_method_7_code 16 = .ok (.iastore, 1) := by decide +kernel
theorem d_LC_weighSetsOf_17 : decode prog_3_method_7_code 17 = .ok (.iconst 1, 1) := by decide +kernel
theorem d_LC_weighSetsOf_18 : decode prog_3_method_7_code 18 = .ok (.istore 5, 2) := by decide +kernel
theorem d_LC_weighSetsOf_20 : decode prog_3_method_7_code 20 = .ok (.iload 5, 2) := by decide +kernel
theorem d_LC_weighSetsOf_22 : decode prog_3_method_7_code 22 = .ok (.iload_n 3, 1) := by decide +kernel
theorem d_LC_weighSetsOf_23 : decode prog_3_method_7_code 23 = .ok (.if_icmp .ge 79, 3) := by decide +kernel
theorem d_LC_weighSetsOf_26 : decode prog_3_method_7_code 26 = .ok (.iload 4, 2) := by decide +kernel
theorem d_LC_weighSetsOf_28 : decode prog_3_method_7_code 28 = .ok (.iload_n 2, 1) := by decide +kernel
theorem d_LC_weighSetsOf_29 : decode prog_3_method_7_code 29 = .ok (.isub, 1) := by decide +kernel
theorem d_LC_weighSetsOf_30 : decode prog_3_method_7_code 30 = .ok (.iload_n 2, 1) := by decide +kernel
theorem d_LC_weighSetsOf_31 : decode prog_3_method_7_code 31 = .ok (.iand, 1) := by decide +kernel
theorem d_LC_weighSetsOf_32 : decode prog_3_method_7_code 32 = .ok (.istore 4, 2) := by decide +kernel
theorem d_LC_weighSetsOf_34 : decode prog_3_method_7_code 34 = .ok (.aload_n 0, 1) := by decide +kernel
theorem d_LC_weighSetsOf_35 : decode prog_3_method_7_code 35 = .ok (.getfield 15, 3) := by decide +kernel
theorem d_LC_weighSetsOf_38 : decode prog_3_method_7_code 38 = .ok (.iload 4, 2) := by decide +kernel
theorem d_LC_weighSetsOf_40 : decode prog_3_method_7_code 40 = .ok (.aload_n 0, 1) := by decide +kernel
theorem d_LC_weighSetsOf_41 : decode prog_3_method_7_code 41 = .ok (.aload_n 1, 1) := by decide +kernel
theorem d_LC_weighSetsOf_42 : decode prog_3_method_7_code 42 = .ok (.iload 4, 2) := by decide +kernel
theorem d_LC_weighSetsOf_44 : decode prog_3_method_7_code 44 = .ok (.invokevirtual 100, 3) := by decide +kernel
theorem d_LC_weighSetsOf_47 : decode prog_3_method_7_code 47 = .ok (.iastore, 1) := by decide +kernel
theorem d_LC_weighSetsOf_48 : decode prog_3_method_7_code 48 = .ok (.iload 4, 2) := by decide +kernel
theorem d_LC_weighSetsOf_50 : decode prog_3_method_7_code 50 = .ok (.iload 4, 2) := by decide +kernel
theorem d_LC_weighSetsOf_52 : decode prog_3_method_7_code 52 = .ok (.iconst 1, 1) := by decide +kernel
theorem d_LC_weighSetsOf_53 : decode prog_3_method_7_code 53 = .ok (.isub, 1) := by decide +kernel
theorem d_LC_weighSetsOf_54 : decode prog_3_method_7_code 54 = .ok (.iand, 1) := by decide +kernel
theorem d_LC_weighSetsOf_55 : decode prog_3_method_7_code 55 = .ok (.ifCond .ne 14, 3) := by decide +kernel
theorem d_LC_weighSetsOf_58 : decode prog_3_method_7_code 58 = .ok (.aload_n 0, 1) := by decide +kernel
theorem d_LC_weighSetsOf_59 : decode prog_3_method_7_code 59 = .ok (.getfield 18, 3) := by decide +kernel
theorem d_LC_weighSetsOf_62 : decode prog_3_method_7_code 62 = .ok (.iload 4, 2) := by decide +kernel
theorem d_LC_weighSetsOf_64 : decode prog_3_method_7_code 64 = .ok (.iconst 1, 1) := by decide +kernel
theorem d_LC_weighSetsOf_65 : decode prog_3_method_7_code 65 = .ok (.iastore, 1) := by decide +kernel
theorem d_LC_weighSetsOf_66 : decode prog_3_method_7_code 66 = .ok (.goto 30, 3) := by decide +kernel
theorem d_LC_weighSetsOf_69 : decode prog_3_method_7_code 69 = .ok (.aload_n 0, 1) := by decide +kernel
theorem d_LC_weighSetsOf_70 : decode prog_3_method_7_code 70 = .ok (.getfield 18, 3) := by decide +kernel
theorem d_LC_weighSetsOf_73 : decode prog_3_method_7_code 73 = .ok (.iload 4, 2) := by decide +kernel
theorem d_LC_weighSetsOf_75 : decode prog_3_method_7_code 75 = .ok (.aload_n 0, 1) := by decide +kernel
theorem d_LC_weighSetsOf_76 : decode prog_3_method_7_code 76 = .ok (.aload_n 1, 1) := by decide +kernel
theorem d_LC_weighSetsOf_77 : decode prog_3_method_7_code 77 = .ok (.iload 4, 2) := by decide +kernel
theorem d_LC_weighSetsOf_79 : decode prog_3_method_7_code 79 = .ok (.invokevirtual 103, 3) := by decide +kernel
theorem d_LC_weighSetsOf_82 : decode prog_3_method_7_code 82 = .ok (.ifCond .eq 12, 3) := by decide +kernel
theorem d_LC_weighSetsOf_85 : decode prog_3_method_7_code 85 = .ok (.aload_n 0, 1) := by decide +kernel
theorem d_LC_weighSetsOf_86 : decode prog_3_method_7_code 86 = .ok (.iload 4, 2) := by decide +kernel
theorem d_LC_weighSetsOf_88 : decode prog_3_method_7_code 88 = .ok (.invokevirtual 107, 3) := by decide +kernel
theorem d_LC_weighSetsOf_91 : decode prog_3_method_7_code 91 = .ok (.goto 4, 3) := by decide +kernel
theorem d_LC_weighSetsOf_94 : decode prog_3_method_7_code 94 = .ok (.iconst 0, 1) := by decide +kernel
theorem d_LC_weighSetsOf_95 : decode prog_3_method_7_code 95 = .ok (.iastore, 1) := by decide +kernel
theorem d_LC_weighSetsOf_96 : decode prog_3_method_7_code 96 = .ok (.iinc 5 1, 3) := by decide +kernel
theorem d_LC_weighSetsOf_99 : decode prog_3_method_7_code 99 = .ok (.goto (-79), 3) := by decide +kernel
theorem d_LC_weighSetsOf_102 : decode prog_3_method_7_code 102 = .ok (.return_, 1) := by decide +kernel
abbrev wd_LC_weighSetsOf (cI cJ cG cZ : ClassId) (a0 a1 a0_open a0_clash a0_weight a0_common a0_gain a0_sum a1_near a1_tail a1_head : Nat) (v0_rest : Int32) (v0_versionSeen : Int32) (v0_restSeen : Int32) (n0_clash : Nat) (w0_clash : Nat → Int32) (n0_weight : Nat) (w0_weight : Nat → Int32) (v1_nodes : Int32) (v1_arcCount : Int32) (v1_version : Int32) (w1_near : Nat → Int32) : va_W := [(a0, .inr (4, [.ref a0_open, .ref a0_clash, .ref a0_weight, .ref a0_common, .ref a0_gain, .ref a0_sum, .int v0_rest, .int v0_versionSeen, .int v0_restSeen])), (a0_clash, .inl (cI, n0_clash, .inl w0_clash)), (a0_weight, .inl (cI, n0_weight, .inl w0_weight)), (a1, .inr (1, [.ref a1_near, .ref a1_tail, .ref a1_head, .int v1_nodes, .int v1_arcCount, .int v1_version])), (a1_near, .inl (cI, 12, .inl w1_near))]
abbrev us_LC_weighSetsOf : List Cond := .code y_LC_weighSetsOf prog_3_method_7_code 6 none :: gtbl
abbrev rm_LC_weighSetsOf : Room := { frames := 3, cells := 0, slots := 0, locals := 63 }
def m_LC_weighSetsOf (F : Nat) (v0_rest : Int32) (v0_versionSeen : Int32) (v0_restSeen : Int32) (n0_clash : Nat) (w0_clash : Nat → Int32) (n0_weight : Nat) (w0_weight : Nat → Int32) (v1_nodes : Int32) (v1_arcCount : Int32) (v1_version : Int32) (w1_near : Nat → Int32) (p2 : Int32) : Option ((Nat → Int32) × (Nat → Int32)) :=
  gB ((1 : Int32) <<< ((bitc p2) &&& 31)) (fun x3_1 =>
  gC (inb 0 n0_clash) (
  gL (fun (k_20 : (Int32 × Int32 × (Nat → Int32) × (Nat → Int32)) → Option ((Nat → Int32) × (Nat → Int32))) (z_20 : Int32 × Int32 × (Nat → Int32) × (Nat → Int32)) => match z_20 with
  | (x4_3, x5_4, w0_clash_5, w0_weight_6) =>
  if x3_1 ≤ x5_4 then (
    some (w0_clash_5, w0_weight_6)
  ) else (
    gB ((x4_3 - p2) &&& p2) (fun x4_8 =>
    gM (m_LC_clashIn F v0_rest v0_versionSeen v0_restSeen n0_clash w0_clash_5 v1_nodes v1_arcCount v1_version w1_near x4_8) (fun q_9 =>
    gC (inb x4_8 n0_clash) (
    if (x4_8 &&& (x4_8 - 1)) = 0 then (
      gC (inb x4_8 n0_weight) (
      gB (x5_4 + 1) (fun x5_26 =>
      k_20 (x4_8, x5_26, upd w0_clash_5 x4_8.toNatClampNeg q_9, upd w0_weight_6 x4_8.toNatClampNeg 1)))
    ) else (
      gM (m_LC_hangsTogether F v0_rest v0_versionSeen v0_restSeen n0_weight w0_weight_6 v1_nodes v1_arcCount v1_version w1_near x4_8) (fun q_14 =>
      gB (α := Int32 → Option ((Nat → Int32) × (Nat → Int32))) (fun s_18 =>
        gC (inb x4_8 n0_weight) (
        gB (x5_4 + 1) (fun x5_20 =>
        k_20 (x4_8, x5_20, upd w0_clash_5 x4_8.toNatClampNeg q_9, upd w0_weight_6 x4_8.toNatClampNeg s_18)))
      ) (fun J_95 =>
      if q_14 = 0 then (
        J_95 0
      ) else (
        gM (m_LC_weigh F v0_rest v0_versionSeen v0_restSeen n0_clash (upd w0_clash_5 x4_8.toNatClampNeg q_9) n0_weight w0_weight_6 x4_8) (fun q_22 =>
        J_95 q_22)
      )
      ))
    ))))
  )
  ) F (0, 1, upd w0_clash (0 : Int32).toNatClampNeg 0, w0_weight)))
set_option maxHeartbeats 4000000 in
set_option maxRecDepth 100000 in
theorem c_LC_weighSetsOf (l : Launch) (dC : Nat → ClassId) (dI : Nat → Nat → Nat) (cI cJ cG cZ : ClassId) (a0 a1 a0_open a0_clash a0_weight a0_common a0_gain a0_sum a1_near a1_tail a1_head : Nat) (sz : Nat) (F : Nat) (v0_rest : Int32) (v0_versionSeen : Int32) (v0_restSeen : Int32) (n0_clash : Nat) (w0_clash : Nat → Int32) (n0_weight : Nat) (w0_weight : Nat → Int32) (v1_nodes : Int32) (v1_arcCount : Int32) (v1_version : Int32) (w1_near : Nat → Int32) (p2 : Int32) (o_w0_clash : Nat → Int32) (o_w0_weight : Nat → Int32) (hm : m_LC_weighSetsOf F v0_rest v0_versionSeen v0_restSeen n0_clash w0_clash n0_weight w0_weight v1_nodes v1_arcCount v1_version w1_near p2 = some (o_w0_clash, o_w0_weight)) : Met l y_LC_weighSetsOf us_LC_weighSetsOf rm_LC_weighSetsOf (PcS (dC, dI) (tyL cI cJ cG cZ) [.ref a0, .ref a1, .int p2] sz (wd_LC_weighSetsOf cI cJ cG cZ a0 a1 a0_open a0_clash a0_weight a0_common a0_gain a0_sum a1_near a1_tail a1_head v0_rest v0_versionSeen v0_restSeen n0_clash w0_clash n0_weight w0_weight v1_nodes v1_arcCount v1_version w1_near)) (va_Qv (fun (_ : Unit) => True) (fun _ t => PoS (dC, dI) (tyL cI cJ cG cZ) (wd_LC_weighSetsOf cI cJ cG cZ a0 a1 a0_open a0_clash a0_weight a0_common a0_gain a0_sum a1_near a1_tail a1_head v0_rest v0_versionSeen v0_restSeen n0_clash o_w0_clash n0_weight o_w0_weight v1_nodes v1_arcCount v1_version w1_near) (va_A (wd_LC_weighSetsOf cI cJ cG cZ a0 a1 a0_open a0_clash a0_weight a0_common a0_gain a0_sum a1_near a1_tail a1_head v0_rest v0_versionSeen v0_restSeen n0_clash w0_clash n0_weight w0_weight v1_nodes v1_arcCount v1_version w1_near) sz) t) (va_A (wd_LC_weighSetsOf cI cJ cG cZ a0 a1 a0_open a0_clash a0_weight a0_common a0_gain a0_sum a1_near a1_tail a1_head v0_rest v0_versionSeen v0_restSeen n0_clash w0_clash n0_weight w0_weight v1_nodes v1_arcCount v1_version w1_near) sz)) 0 0 (va_A (wd_LC_weighSetsOf cI cJ cG cZ a0 a1 a0_open a0_clash a0_weight a0_common a0_gain a0_sum a1_near a1_tail a1_head v0_rest v0_versionSeen v0_restSeen n0_clash w0_clash n0_weight w0_weight v1_nodes v1_arcCount v1_version w1_near) sz) := by
  refine Met.ofW (cc := prog_3_method_7_code) (maxL := 6) (ret := none) (by decide) rfl ?_
  intro p e s m args below meth c s₁ B hml hv
  obtain ⟨rfl, hsz, hP, hK, hD0, hNw⟩ := hv
  have hx := B.exec
  have hb := B.bytes
  have hr := B.returns
  have htt : ∀ w ∈ gtbl, w.before _ s = true := fun w h => atoms_spec (ws := us_LC_weighSetsOf) B.pre w (List.mem_cons_of_mem _ h)
  have hown : s.vm.findClass R_LC = some m.cls := findClass_of_methodNamed B.named
  have hlocks := B.notSynchronized
  subst hsz
  have hD := hD0.self (sz := s.heap.size)
  generalize hAe : va_A (wd_LC_weighSetsOf cI cJ cG cZ a0 a1 a0_open a0_clash a0_weight a0_common a0_gain a0_sum a1_near a1_tail a1_head v0_rest v0_versionSeen v0_restSeen n0_clash w0_clash n0_weight w0_weight v1_nodes v1_arcCount v1_version w1_near) s.heap.size = A at hD ⊢
  have hA : ∀ q : Nat, s.heap.size ≤ q → A q := fun q h => by rw [← hAe]; exact Or.inr h
  clear hAe hD0
  have hS : va_S A s.heap s.heap [] := va_S.rf
  have hl := lv_entry ([.ref a0, .ref a1, .int p2]) (n := 6) (Nat.le_of_ble_eq_true rfl)
  rw [lg_entry_eq]
  generalize (lg_sl ([.ref a0, .ref a1, .int p2]) ++ List.replicate (6 - (lg_sl ([.ref a0, .ref a1, .int p2])).length) Slot.unset).toArray = ls at hl ⊢
  have hl : lv_has ls 6 [(0, .ref a0), (1, .ref a1), (2, .int p2)] := hl
  generalize hH : s.heap = H at hP ⊢
  have hS : va_S A s.heap H [] := hH ▸ hS
  generalize hLo : ([] : List Loc) = locs at hS ⊢
  clear hH hLo
  unfold m_LC_weighSetsOf at hm
  refine lv_iconst (v := 1) hx hb d_LC_weighSetsOf_0 (by decide) ?_
  refine lv_iload_n hx hb d_LC_weighSetsOf_1 rfl (lv_at hl 2 rfl) ?_
  refine gx_bit hx hb hml hown htt kt_463 hK hNw hP hD hS hA hl.1 (lv_room (Nat.le_of_ble_eq_true rfl)) (Nat.le_of_ble_eq_true rfl) (Nat.le_of_ble_eq_true rfl) (Nat.zero_le _) (Nat.zero_le _) d_LC_weighSetsOf_2 (fun H locs hP hD hS => ?_)
  refine lv_ishl hx hb d_LC_weighSetsOf_5 ?_
  refine lv_topi (fun x3_1 ex3_1 => ?_)
  have hm := gB_at ex3_1 hm
  refine lv_istore_n (lv' := [(3, .int x3_1), (0, .ref a0), (1, .ref a1), (2, .int p2)]) hx hb d_LC_weighSetsOf_6 rfl hl (by decide) rfl (fun ls hl => ?_)
  refine lv_iconst (v := 0) hx hb d_LC_weighSetsOf_7 (by decide) ?_
  refine lv_istore (lv' := [(4, .int 0), (3, .int x3_1), (0, .ref a0), (1, .ref a1), (2, .int p2)]) hx hb d_LC_weighSetsOf_8 hl (by decide) rfl (fun ls hl => ?_)
  refine lv_aload_n hx hb d_LC_weighSetsOf_10 rfl (lv_at hl 2 rfl) ?_
  refine va_get (D := (dC, dI)) (ci := 4) (v := .ref a0_clash) (C := R_LC) (T := T_LC) (N := 9) hx hb htt hin_LC hown hK hP 0 rfl rfl 1 (by decide) (htt _ kt_147) (fun _ h9 => h9) rfl d_LC_weighSetsOf_11 ?_
  refine lv_iconst (v := 0) hx hb d_LC_weighSetsOf_14 (by decide) ?_
  refine lv_iconst (v := 0) hx hb d_LC_weighSetsOf_15 (by decide) ?_
  obtain ⟨hi_2, hm⟩ := gC_e hm
  refine va_iast hx hb hK hP hD hS 1 0 rfl rfl (inb_vp hi_2) d_LC_weighSetsOf_16 (fun H locs hP hD hS => ?_)
  have hP : va_P (dC, dI) vwCl (wd_LC_weighSetsOf cI cJ cG cZ a0 a1 a0_open a0_clash a0_weight a0_common a0_gain a0_sum a1_near a1_tail a1_head v0_rest v0_versionSeen v0_restSeen n0_clash (upd w0_clash (0 : Int32).toNatClampNeg 0) n0_weight w0_weight v1_nodes v1_arcCount v1_version w1_near) H := hP
  have hD : va_D A (wd_LC_weighSetsOf cI cJ cG cZ a0 a1 a0_open a0_clash a0_weight a0_common a0_gain a0_sum a1_near a1_tail a1_head v0_rest v0_versionSeen v0_restSeen n0_clash (upd w0_clash (0 : Int32).toNatClampNeg 0) n0_weight w0_weight v1_nodes v1_arcCount v1_version w1_near) := hD
  refine lv_iconst (v := 1) hx hb d_LC_weighSetsOf_17 (by decide) ?_
  refine lv_istore (lv' := [(5, .int 1), (4, .int 0), (3, .int x3_1), (0, .ref a0), (1, .ref a1), (2, .int p2)]) hx hb d_LC_weighSetsOf_18 hl (by decide) rfl (fun ls hl => ?_)
  refine gL_e (P := (fun (z_20 : Int32 × Int32 × (Nat → Int32) × (Nat → Int32)) => ∀ (x4_3 : Int32), ∀ (x5_4 : Int32), ∀ (w0_clash_5 : Nat → Int32), ∀ (w0_weight_6 : Nat → Int32), z_20 = (x4_3, x5_4, w0_clash_5, w0_weight_6) → ∀ (ls : Array Slot) (H : Heap) (locs : List Loc), lv_has ls 6 [(0, .ref a0), (1, .ref a1), (2, .int p2), (3, .int x3_1), (4, .int x4_3), (5, .int x5_4)] → va_P (dC, dI) vwCl (wd_LC_weighSetsOf cI cJ cG cZ a0 a1 a0_open a0_clash a0_weight a0_common a0_gain a0_sum a1_near a1_tail a1_head v0_rest v0_versionSeen v0_restSeen n0_clash w0_clash_5 n0_weight w0_weight_6 v1_nodes v1_arcCount v1_version w1_near) H → va_D A (wd_LC_weighSetsOf cI cJ cG cZ a0 a1 a0_open a0_clash a0_weight a0_common a0_gain a0_sum a1_near a1_tail a1_head v0_rest v0_versionSeen v0_restSeen n0_clash w0_clash_5 n0_weight w0_weight_6 v1_nodes v1_arcCount v1_version w1_near) → va_S A s.heap H locs → W p l e (headSpec us_LC_weighSetsOf rm_LC_weighSetsOf).room s m ([.ref a0, .ref a1, .int p2] : List Value).toArray below meth c H locs 0 0 (MQ below (va_Qv (fun (_ : Unit) => True) (fun _ t => PoS (dC, dI) (tyL cI cJ cG cZ) (wd_LC_weighSetsOf cI cJ cG cZ a0 a1 a0_open a0_clash a0_weight a0_common a0_gain a0_sum a1_near a1_tail a1_head v0_rest v0_versionSeen v0_restSeen n0_clash o_w0_clash n0_weight o_w0_weight v1_nodes v1_arcCount v1_version w1_near) A t) A) ([.ref a0, .ref a1, .int p2] : List Value).toArray s 0 0 A) (F0 m 20 ls []))) hm (fun k_20 z_20 ih_20 hm => ?_) _ _ _ _ rfl ls H locs (lv_sub hl [3, 4, 5, 2, 1, 0] rfl) hP hD hS
  intro x4_3 x5_4 w0_clash_5 w0_weight_6 hz ls H locs hl hP hD hS
  subst hz
  dsimp only at hm
  refine lv_iload hx hb d_LC_weighSetsOf_20 (lv_at hl 5 rfl) ?_
  refine lv_iload_n hx hb d_LC_weighSetsOf_22 rfl (lv_at hl 3 rfl) ?_
  refine lv_icmp_ge (tgt := 102) hx hb d_LC_weighSetsOf_23 (by decide) (fun c_7 => ?_) (fun c_7 => ?_)
  · have hm := ite_t c_7 hm
    cases hm
    exact W.vret hx hb hr (fun t ht hW => ⟨⟨(), rfl, trivial, by rw [ht]; exact hP, va_K.moved hW.alike hK, hD⟩, hS.F ht⟩) hS.2.2 d_LC_weighSetsOf_102
  · have hm := ite_f c_7 hm
    refine lv_iload hx hb d_LC_weighSetsOf_26 (lv_at hl 4 rfl) ?_
    refine lv_iload_n hx hb d_LC_weighSetsOf_28 rfl (lv_at hl 2 rfl) ?_
    refine lv_isub hx hb d_LC_weighSetsOf_29 ?_
    refine lv_iload_n hx hb d_LC_weighSetsOf_30 rfl (lv_at hl 2 rfl) ?_
    refine lv_iand hx hb d_LC_weighSetsOf_31 ?_
    refine lv_topi (fun x4_8 ex4_8 => ?_)
    have hm := gB_at ex4_8 hm
    refine lv_istore (lv' := [(4, .int x4_8), (0, .ref a0), (1, .ref a1), (2, .int p2), (3, .int x3_1), (5, .int x5_4)]) hx hb d_LC_weighSetsOf_32 hl (by decide) rfl (fun ls hl => ?_)
    refine lv_aload_n hx hb d_LC_weighSetsOf_34 rfl (lv_at hl 1 rfl) ?_
    refine va_get (D := (dC, dI)) (ci := 4) (v := .ref a0_clash) (C := R_LC) (T := T_LC) (N := 9) hx hb htt hin_LC hown hK hP 0 rfl rfl 1 (by decide) (htt _ kt_147) (fun _ h9 => h9) rfl d_LC_weighSetsOf_35 ?_
    refine lv_iload hx hb d_LC_weighSetsOf_38 (lv_at hl 0 rfl) ?_
    refine lv_aload_n hx hb d_LC_weighSetsOf_40 rfl (lv_at hl 1 rfl) ?_
    refine lv_aload_n hx hb d_LC_weighSetsOf_41 rfl (lv_at hl 2 rfl) ?_
    refine lv_iload hx hb d_LC_weighSetsOf_42 (lv_at hl 0 rfl) ?_
    obtain ⟨q_9, hc_10, hm⟩ := gM_e hm
    have hPc : va_P (dC, dI) vwCl (wd_LC_clashIn cI cJ cG cZ a0 a1 a0_open a0_clash a0_weight a0_common a0_gain a0_sum a1_near a1_tail a1_head v0_rest v0_versionSeen v0_restSeen n0_clash w0_clash_5 v1_nodes v1_arcCount v1_version w1_near) H := hP.sub [0, 1, 3, 4] rfl
    have hDc : va_D A (wd_LC_clashIn cI cJ cG cZ a0 a1 a0_open a0_clash a0_weight a0_common a0_gain a0_sum a1_near a1_tail a1_head v0_rest v0_versionSeen v0_restSeen n0_clash w0_clash_5 v1_nodes v1_arcCount v1_version w1_near) := hD.sub [0, 1, 3, 4] (by decide) rfl
    have hFc : ∀ q, va_A (wd_LC_clashIn cI cJ cG cZ a0 a1 a0_open a0_clash a0_weight a0_common a0_gain a0_sum a1_near a1_tail a1_head v0_rest v0_versionSeen v0_restSeen n0_clash w0_clash_5 v1_nodes v1_arcCount v1_version w1_near) H.size q → A q := va_free hD hS hA [0, 1, 3, 4] rfl
    refine va_calli (va_runV (As := [.ref a1, .int x4_8]) (rest := [.int x4_8, .ref a0_clash]) ⟨hx, hb, hml, hown, htt⟩ (c_LC_clashIn l dC dI cI cJ cG cZ a0 a1 a0_open a0_clash a0_weight a0_common a0_gain a0_sum a1_near a1_tail a1_head H.size F v0_rest v0_versionSeen v0_restSeen n0_clash w0_clash_5 v1_nodes v1_arcCount v1_version w1_near x4_8 q_9 hc_10) (cwV 2 htt (gdV kt_488 kt_490 kp_25 kt_5 kt_491) rfl rfl rfl (by decide +kernel) ⟨(Nat.le_of_ble_eq_true rfl), (Nat.le_of_ble_eq_true rfl)⟩) ⟨PcS_blind, va_recv hK hPc (ci := 4) (q0 := 0) rfl rfl, PcS_in hPc hK hDc hNw⟩ rfl rfl hl.1 rfl (lv_room (Nat.le_of_ble_eq_true rfl)) d_LC_weighSetsOf_44 ⟨Nat.zero_le _, Nat.zero_le _⟩) hS (fun q _ h => hFc q h) hFc (fun r_11 u t H1 locs ht hvm hw hB hz1 hk1 hS => ?_)
    obtain ⟨hP1, hK1, hD1⟩ := hB
    rw [ht] at hP1
    subst hw
    obtain ⟨hP, hD⟩ := va_join (wr := [(a0_weight, .inl (cI, n0_weight, .inl w0_weight_6))]) (w1 := (wd_LC_clashIn cI cJ cG cZ a0 a1 a0_open a0_clash a0_weight a0_common a0_gain a0_sum a1_near a1_tail a1_head v0_rest v0_versionSeen v0_restSeen n0_clash w0_clash_5 v1_nodes v1_arcCount v1_version w1_near)) hP hD [0, 1, 3, 4] [2] rfl rfl (by decide) (by decide) hk1 hFc hP1 hD1
    have hP : va_P (dC, dI) vwCl (wd_LC_weighSetsOf cI cJ cG cZ a0 a1 a0_open a0_clash a0_weight a0_common a0_gain a0_sum a1_near a1_tail a1_head v0_rest v0_versionSeen v0_restSeen n0_clash w0_clash_5 n0_weight w0_weight_6 v1_nodes v1_arcCount v1_version w1_near) H1 := hP.sub [1, 2, 0, 3, 4] rfl
    have hD : va_D A (wd_LC_weighSetsOf cI cJ cG cZ a0 a1 a0_open a0_clash a0_weight a0_common a0_gain a0_sum a1_near a1_tail a1_head v0_rest v0_versionSeen v0_restSeen n0_clash w0_clash_5 n0_weight w0_weight_6 v1_nodes v1_arcCount v1_version w1_near) := hD.sub [1, 2, 0, 3, 4] (by decide) rfl
    clear hP1 hK1 hD1 hk1 hPc hDc hFc ht hvm hz1
    generalize H1 = H at hP hS ⊢
    obtain ⟨hi_12, hm⟩ := gC_e hm
    refine va_iast hx hb hK hP hD hS 1 0 rfl rfl (inb_vp hi_12) d_LC_weighSetsOf_47 (fun H locs hP hD hS => ?_)
    have hP : va_P (dC, dI) vwCl (wd_LC_weighSetsOf cI cJ cG cZ a0 a1 a0_open a0_clash a0_weight a0_common a0_gain a0_sum a1_near a1_tail a1_head v0_rest v0_versionSeen v0_restSeen n0_clash (upd w0_clash_5 x4_8.toNatClampNeg q_9) n0_weight w0_weight_6 v1_nodes v1_arcCount v1_version w1_near) H := hP
    have hD : va_D A (wd_LC_weighSetsOf cI cJ cG cZ a0 a1 a0_open a0_clash a0_weight a0_common a0_gain a0_sum a1_near a1_tail a1_head v0_rest v0_versionSeen v0_restSeen n0_clash (upd w0_clash_5 x4_8.toNatClampNeg q_9) n0_weight w0_weight_6 v1_nodes v1_arcCount v1_version w1_near) := hD
    refine lv_iload hx hb d_LC_weighSetsOf_48 (lv_at hl 0 rfl) ?_
    refine lv_iload hx hb d_LC_weighSetsOf_50 (lv_at hl 0 rfl) ?_
    refine lv_iconst (v := 1) hx hb d_LC_weighSetsOf_52 (by decide) ?_
    refine lv_isub hx hb d_LC_weighSetsOf_53 ?_
    refine lv_iand hx hb d_LC_weighSetsOf_54 ?_
    refine lv_if_ne (tgt := 69) hx hb d_LC_weighSetsOf_55 (by decide) (fun c_13 => ?_) (fun c_13 => ?_)
    · have hm := ite_f c_13 hm
      refine lv_aload_n hx hb d_LC_weighSetsOf_69 rfl (lv_at hl 1 rfl) ?_
      refine va_get (D := (dC, dI)) (ci := 4) (v := .ref a0_weight) (C := R_LC) (T := T_LC) (N := 9) hx hb htt hin_LC hown hK hP 0 rfl rfl 2 (by decide) (htt _ kt_148) (fun _ h9 => h9) rfl d_LC_weighSetsOf_70 ?_
      refine lv_iload hx hb d_LC_weighSetsOf_73 (lv_at hl 0 rfl) ?_
      refine lv_aload_n hx hb d_LC_weighSetsOf_75 rfl (lv_at hl 1 rfl) ?_
      refine lv_aload_n hx hb d_LC_weighSetsOf_76 rfl (lv_at hl 2 rfl) ?_
      refine lv_iload hx hb d_LC_weighSetsOf_77 (lv_at hl 0 rfl) ?_
      obtain ⟨q_14, hc_15, hm⟩ := gM_e hm
      have hPc : va_P (dC, dI) vwCl (wd_LC_hangsTogether cI cJ cG cZ a0 a1 a0_open a0_clash a0_weight a0_common a0_gain a0_sum a1_near a1_tail a1_head v0_rest v0_versionSeen v0_restSeen n0_weight w0_weight_6 v1_nodes v1_arcCount v1_version w1_near) H := hP.sub [0, 2, 3, 4] rfl
      have hDc : va_D A (wd_LC_hangsTogether cI cJ cG cZ a0 a1 a0_open a0_clash a0_weight a0_common a0_gain a0_sum a1_near a1_tail a1_head v0_rest v0_versionSeen v0_restSeen n0_weight w0_weight_6 v1_nodes v1_arcCount v1_version w1_near) := hD.sub [0, 2, 3, 4] (by decide) rfl
      have hFc : ∀ q, va_A (wd_LC_hangsTogether cI cJ cG cZ a0 a1 a0_open a0_clash a0_weight a0_common a0_gain a0_sum a1_near a1_tail a1_head v0_rest v0_versionSeen v0_restSeen n0_weight w0_weight_6 v1_nodes v1_arcCount v1_version w1_near) H.size q → A q := va_free hD hS hA [0, 2, 3, 4] rfl
      refine va_calli (va_runV (As := [.ref a1, .int x4_8]) (rest := [.int x4_8, .ref a0_weight]) ⟨hx, hb, hml, hown, htt⟩ (c_LC_hangsTogether l dC dI cI cJ cG cZ a0 a1 a0_open a0_clash a0_weight a0_common a0_gain a0_sum a1_near a1_tail a1_head H.size F v0_rest v0_versionSeen v0_restSeen n0_weight w0_weight_6 v1_nodes v1_arcCount v1_version w1_near x4_8 q_14 hc_15) (cwV 2 htt (gdV kt_493 kt_495 kp_26 kt_5 kt_496) rfl rfl rfl (by decide +kernel) ⟨(Nat.le_of_ble_eq_true rfl), (Nat.le_of_ble_eq_true rfl)⟩) ⟨PcS_blind, va_recv hK hPc (ci := 4) (q0 := 0) rfl rfl, PcS_in hPc hK hDc hNw⟩ rfl rfl hl.1 rfl (lv_room (Nat.le_of_ble_eq_true rfl)) d_LC_weighSetsOf_79 ⟨Nat.zero_le _, Nat.zero_le _⟩) hS (fun q _ h => hFc q h) hFc (fun r_16 u t H1 locs ht hvm hw hB hz1 hk1 hS => ?_)
      obtain ⟨hP1, hK1, hD1⟩ := hB
      rw [ht] at hP1
      obtain ⟨hw, hz_17⟩ := hw
      subst hw
      obtain ⟨hP, hD⟩ := va_join (wr := [(a0_clash, .inl (cI, n0_clash, .inl (upd w0_clash_5 x4_8.toNatClampNeg q_9)))]) (w1 := (wd_LC_hangsTogether cI cJ cG cZ a0 a1 a0_open a0_clash a0_weight a0_common a0_gain a0_sum a1_near a1_tail a1_head v0_rest v0_versionSeen v0_restSeen n0_weight w0_weight_6 v1_nodes v1_arcCount v1_version w1_near)) hP hD [0, 2, 3, 4] [1] rfl rfl (by decide) (by decide) hk1 hFc hP1 hD1
      have hP : va_P (dC, dI) vwCl (wd_LC_weighSetsOf cI cJ cG cZ a0 a1 a0_open a0_clash a0_weight a0_common a0_gain a0_sum a1_near a1_tail a1_head v0_rest v0_versionSeen v0_restSeen n0_clash (upd w0_clash_5 x4_8.toNatClampNeg q_9) n0_weight w0_weight_6 v1_nodes v1_arcCount v1_version w1_near) H1 := hP.sub [1, 0, 2, 3, 4] rfl
      have hD : va_D A (wd_LC_weighSetsOf cI cJ cG cZ a0 a1 a0_open a0_clash a0_weight a0_common a0_gain a0_sum a1_near a1_tail a1_head v0_rest v0_versionSeen v0_restSeen n0_clash (upd w0_clash_5 x4_8.toNatClampNeg q_9) n0_weight w0_weight_6 v1_nodes v1_arcCount v1_version w1_near) := hD.sub [1, 0, 2, 3, 4] (by decide) rfl
      clear hP1 hK1 hD1 hk1 hPc hDc hFc ht hvm hz1
      generalize H1 = H at hP hS ⊢
      obtain ⟨J_95, hJ_95, hm⟩ := gB_x hm
      have jp_95 : ∀ (s_18 : Int32) (ls : Array Slot) (H : Heap) (locs : List Loc), J_95 s_18 = some (o_w0_clash, o_w0_weight) → lv_has ls 6 [(0, .ref a0), (1, .ref a1), (2, .int p2), (3, .int x3_1), (4, .int x4_8), (5, .int x5_4)] → va_P (dC, dI) vwCl (wd_LC_weighSetsOf cI cJ cG cZ a0 a1 a0_open a0_clash a0_weight a0_common a0_gain a0_sum a1_near a1_tail a1_head v0_rest v0_versionSeen v0_restSeen n0_clash (upd w0_clash_5 x4_8.toNatClampNeg q_9) n0_weight w0_weight_6 v1_nodes v1_arcCount v1_version w1_near) H → va_D A (wd_LC_weighSetsOf cI cJ cG cZ a0 a1 a0_open a0_clash a0_weight a0_common a0_gain a0_sum a1_near a1_tail a1_head v0_rest v0_versionSeen v0_restSeen n0_clash (upd w0_clash_5 x4_8.toNatClampNeg q_9) n0_weight w0_weight_6 v1_nodes v1_arcCount v1_version w1_near) → va_S A s.heap H locs → W p l e (headSpec us_LC_weighSetsOf rm_LC_weighSetsOf).room s m ([.ref a0, .ref a1, .int p2] : List Value).toArray below meth c H locs 0 0 (MQ below (va_Qv (fun (_ : Unit) => True) (fun _ t => PoS (dC, dI) (tyL cI cJ cG cZ) (wd_LC_weighSetsOf cI cJ cG cZ a0 a1 a0_open a0_clash a0_weight a0_common a0_gain a0_sum a1_near a1_tail a1_head v0_rest v0_versionSeen v0_restSeen n0_clash o_w0_clash n0_weight o_w0_weight v1_nodes v1_arcCount v1_version w1_near) A t) A) ([.ref a0, .ref a1, .int p2] : List Value).toArray s 0 0 A) (F0 m 95 ls [.int s_18, .int x4_8, .ref a0_weight]) := by
        intro s_18 ls H locs hm hl hP hD hS
        have hm := jn1 hJ_95 hm
        obtain ⟨hi_19, hm⟩ := gC_e hm
        refine va_iast hx hb hK hP hD hS 2 0 rfl rfl (inb_vp hi_19) d_LC_weighSetsOf_95 (fun H locs hP hD hS => ?_)
        have hP : va_P (dC, dI) vwCl (wd_LC_weighSetsOf cI cJ cG cZ a0 a1 a0_open a0_clash a0_weight a0_common a0_gain a0_sum a1_near a1_tail a1_head v0_rest v0_versionSeen v0_restSeen n0_clash (upd w0_clash_5 x4_8.toNatClampNeg q_9) n0_weight (upd w0_weight_6 x4_8.toNatClampNeg s_18) v1_nodes v1_arcCount v1_version w1_near) H := hP
        have hD : va_D A (wd_LC_weighSetsOf cI cJ cG cZ a0 a1 a0_open a0_clash a0_weight a0_common a0_gain a0_sum a1_near a1_tail a1_head v0_rest v0_versionSeen v0_restSeen n0_clash (upd w0_clash_5 x4_8.toNatClampNeg q_9) n0_weight (upd w0_weight_6 x4_8.toNatClampNeg s_18) v1_nodes v1_arcCount v1_version w1_near) := hD
        obtain ⟨x5_20, ex5_20⟩ : ∃ y : Int32, y = x5_4 + 1 := ⟨_, rfl⟩
        have hm := gB_at ex5_20 hm
        refine lv_iinc (v := x5_20) (lv' := [(5, .int x5_20), (0, .ref a0), (1, .ref a1), (2, .int p2), (3, .int x3_1), (4, .int x4_8)]) hx hb d_LC_weighSetsOf_96 hl (k := 5) rfl (by rw [ex5_20]; rfl) (by decide) rfl (fun ls hl => ?_)
        refine lv_goto (tgt := 20) hx hb d_LC_weighSetsOf_99 (by decide) ?_
        exact ih_20 _ hm _ _ _ _ rfl ls H locs (lv_sub hl [1, 2, 3, 4, 5, 0] rfl) hP hD hS
      clear hJ_95
      refine lv_if_eq (tgt := 94) hx hb d_LC_weighSetsOf_82 (by decide) (fun c_21 => ?_) (fun c_21 => ?_)
      · have hm := ite_t c_21 hm
        refine lv_iconst (v := 0) hx hb d_LC_weighSetsOf_94 (by decide) ?_
        exact jp_95 _ ls H locs hm (lv_sub hl [1, 2, 3, 4, 0, 5] rfl) hP hD hS
      · have hm := ite_f c_21 hm
        refine lv_aload_n hx hb d_LC_weighSetsOf_85 rfl (lv_at hl 1 rfl) ?_
        refine lv_iload hx hb d_LC_weighSetsOf_86 (lv_at hl 0 rfl) ?_
        obtain ⟨q_22, hc_23, hm⟩ := gM_e hm
        have hPc : va_P (dC, dI) vwCl (wd_LC_weigh cI cJ cG cZ a0 a0_open a0_clash a0_weight a0_common a0_gain a0_sum v0_rest v0_versionSeen v0_restSeen n0_clash (upd w0_clash_5 x4_8.toNatClampNeg q_9) n0_weight w0_weight_6) H := hP.sub [0, 1, 2] rfl
        have hDc : va_D A (wd_LC_weigh cI cJ cG cZ a0 a0_open a0_clash a0_weight a0_common a0_gain a0_sum v0_rest v0_versionSeen v0_restSeen n0_clash (upd w0_clash_5 x4_8.toNatClampNeg q_9) n0_weight w0_weight_6) := hD.sub [0, 1, 2] (by decide) rfl
        have hFc : ∀ q, va_A (wd_LC_weigh cI cJ cG cZ a0 a0_open a0_clash a0_weight a0_common a0_gain a0_sum v0_rest v0_versionSeen v0_restSeen n0_clash (upd w0_clash_5 x4_8.toNatClampNeg q_9) n0_weight w0_weight_6) H.size q → A q := va_free hD hS hA [0, 1, 2] rfl
        refine va_calli (va_runV (As := [.int x4_8]) (rest := [.int x4_8, .ref a0_weight]) ⟨hx, hb, hml, hown, htt⟩ (c_LC_weigh l dC dI cI cJ cG cZ a0 a0_open a0_clash a0_weight a0_common a0_gain a0_sum H.size F v0_rest v0_versionSeen v0_restSeen n0_clash (upd w0_clash_5 x4_8.toNatClampNeg q_9) n0_weight w0_weight_6 x4_8 q_22 hc_23) (cwV 1 htt (gdV kt_497 kt_499 kp_27 kt_5 kt_500) rfl rfl rfl (by decide +kernel) ⟨(Nat.le_of_ble_eq_true rfl), (Nat.le_of_ble_eq_true rfl)⟩) ⟨PcS_blind, va_recv hK hPc (ci := 4) (q0 := 0) rfl rfl, PcS_in hPc hK hDc hNw⟩ rfl rfl hl.1 rfl (lv_room (Nat.le_of_ble_eq_true rfl)) d_LC_weighSetsOf_88 ⟨Nat.zero_le _, Nat.zero_le _⟩) hS (fun q _ h => hFc q h) hFc (fun r_24 u t H1 locs ht hvm hw hB hz1 hk1 hS => ?_)
        obtain ⟨hP1, hK1, hD1⟩ := hB
        rw [ht] at hP1
        subst hw
        obtain ⟨hP, hD⟩ := va_join (wr := [(a1, .inr (1, [.ref a1_near, .ref a1_tail, .ref a1_head, .int v1_nodes, .int v1_arcCount, .int v1_version])), (a1_near, .inl (cI, 12, .inl w1_near))]) (w1 := (wd_LC_weigh cI cJ cG cZ a0 a0_open a0_clash a0_weight a0_common a0_gain a0_sum v0_rest v0_versionSeen v0_restSeen n0_clash (upd w0_clash_5 x4_8.toNatClampNeg q_9) n0_weight w0_weight_6)) hP hD [0, 1, 2] [3, 4] rfl rfl (by decide) (by decide) hk1 hFc hP1 hD1
        have hP : va_P (dC, dI) vwCl (wd_LC_weighSetsOf cI cJ cG cZ a0 a1 a0_open a0_clash a0_weight a0_common a0_gain a0_sum a1_near a1_tail a1_head v0_rest v0_versionSeen v0_restSeen n0_clash (upd w0_clash_5 x4_8.toNatClampNeg q_9) n0_weight w0_weight_6 v1_nodes v1_arcCount v1_version w1_near) H1 := hP.sub [2, 3, 4, 0, 1] rfl
        have hD : va_D A (wd_LC_weighSetsOf cI cJ cG cZ a0 a1 a0_open a0_clash a0_weight a0_common a0_gain a0_sum a1_near a1_tail a1_head v0_rest v0_versionSeen v0_restSeen n0_clash (upd w0_clash_5 x4_8.toNatClampNeg q_9) n0_weight w0_weight_6 v1_nodes v1_arcCount v1_version w1_near) := hD.sub [2, 3, 4, 0, 1] (by decide) rfl
        clear hP1 hK1 hD1 hk1 hPc hDc hFc ht hvm hz1
        generalize H1 = H at hP hS ⊢
        refine lv_goto (tgt := 95) hx hb d_LC_weighSetsOf_91 (by decide) ?_
        exact jp_95 _ ls H locs hm (lv_sub hl [1, 2, 3, 4, 0, 5] rfl) hP hD hS
    · have hm := ite_t c_13 hm
      refine lv_aload_n hx hb d_LC_weighSetsOf_58 rfl (lv_at hl 1 rfl) ?_
      refine va_get (D := (dC, dI)) (ci := 4) (v := .ref a0_weight) (C := R_LC) (T := T_LC) (N := 9) hx hb htt hin_LC hown hK hP 0 rfl rfl 2 (by decide) (htt _ kt_148) (fun _ h9 => h9) rfl d_LC_weighSetsOf_59 ?_
      refine lv_iload hx hb d_LC_weighSetsOf_62 (lv_at hl 0 rfl) ?_
      refine lv_iconst (v := 1) hx hb d_LC_weighSetsOf_64 (by decide) ?_
      obtain ⟨hi_25, hm⟩ := gC_e hm
      refine va_iast hx hb hK hP hD hS 2 0 rfl rfl (inb_vp hi_25) d_LC_weighSetsOf_65 (fun H locs hP hD hS => ?_)
      have hP : va_P (dC, dI) vwCl (wd_LC_weighSetsOf cI cJ cG cZ a0 a1 a0_open a0_clash a0_weight a0_common a0_gain a0_sum a1_near a1_tail a1_head v0_rest v0_versionSeen v0_restSeen n0_clash (upd w0_clash_5 x4_8.toNatClampNeg q_9) n0_weight (upd w0_weight_6 x4_8.toNatClampNeg 1) v1_nodes v1_arcCount v1_version w1_near) H := hP
      have hD : va_D A (wd_LC_weighSetsOf cI cJ cG cZ a0 a1 a0_open a0_clash a0_weight a0_common a0_gain a0_sum a1_near a1_tail a1_head v0_rest v0_versionSeen v0_restSeen n0_clash (upd w0_clash_5 x4_8.toNatClampNeg q_9) n0_weight (upd w0_weight_6 x4_8.toNatClampNeg 1) v1_nodes v1_arcCount v1_version w1_near) := hD
      refine lv_goto (tgt := 96) hx hb d_LC_weighSetsOf_66 (by decide) ?_
      obtain ⟨x5_26, ex5_26⟩ : ∃ y : Int32, y = x5_4 + 1 := ⟨_, rfl⟩
      have hm := gB_at ex5_26 hm
      refine lv_iinc (v := x5_26) (lv' := [(5, .int x5_26), (4, .int x4_8), (0, .ref a0), (1, .ref a1), (2, .int p2), (3, .int x3_1)]) hx hb d_LC_weighSetsOf_96 hl (k := 5) rfl (by rw [ex5_26]; rfl) (by decide) rfl (fun ls hl => ?_)
      refine lv_goto (tgt := 20) hx hb d_LC_weighSetsOf_99 (by decide) ?_
      exact ih_20 _ hm _ _ _ _ rfl ls H locs (lv_sub hl [2, 3, 4, 5, 1, 0] rfl) hP hD hS
theorem d_LC_findGains_0 : decode prog_3_method_12_code 0 = .ok (.iconst 1, 1) := by decide +kernel
theorem d_LC_findGains_1 : decode prog_3_method_12_code 1 = .ok (.iload_n 1, 1) := by decide +kernel
theorem d_LC_findGains_2 : decode prog_3_method_12_code 2 = .ok (.invokestatic 82, 3) := by decide +kernel
theorem d_LC_findGains_5 : decode prog_3_method_12_code 5 = .ok (.ishl, 1) := by decide +kernel
theorem d_LC_findGains_6 : decode prog_3_method_12_code 6 = .ok (.istore_n 2, 1) := by decide +kernel
theorem d_LC_findGains_7 : decode prog_3_method_12_code 7 = .ok (.iconst 0, 1) := by decide +kernel
theorem d_LC_findGains_8 : decode prog_3_method_12_code 8 = .ok (.istore_n 3, 1) := by decide +kernel
theorem d_LC_findGains_9 : decode prog_3_method_12_code 9 = .ok (.aload_n 0, 1) := by decide +kernel
theorem d_LC_findGains_10 : decode prog_3_method_12_code 10 = .ok (.getfield 21, 3) := by decide +kernel
theorem d_LC_findGains_13 : decode prog_3_method_12_code 13 = .ok (.iconst 0, 1) := by decide +kernel
theorem d_LC_findGains_14 : decode prog_3_method_12_code 14 = .ok (.sipush 4095, 3) := by decide +kernel
theorem d_LC_findGains_17 : decode prog_3_method_12_code 17 = .ok (.iastore, 1) := by decide +kernel
theorem d_LC_findGains_18 : decode prog_3_method_12_code 18 = .ok (.iconst 1, 1) := by decide +kernel
theorem d_LC_findGains_19 : decode prog_3_method_12_code 19 = .ok (.istore 4, 2) := by decide +kernel
theorem d_LC_findGains_21 : decode prog_3_method_12_code 21 = .ok (.iload 4, 2) := by decide +kernel
theorem d_LC_findGains_23 : decode prog_3_method_12_code 23 = .ok (.iload_n 2, 1) := by decide +kernel
theorem d_LC_findGains_24 : decode prog_3_method_12_code 24 = .ok (.if_icmp .ge 63, 3) := by decide +kernel
theorem d_LC_findGains_27 : decode prog_3_method_12_code 27 = .ok (.iload_n 3, 1) := by decide +kernel
theorem d_LC_findGains_28 : decode prog_3_method_12_code 28 = .ok (.iload_n 1, 1) := by decide +kernel
theorem d_LC_findGains_29 : decode prog_3_method_12_code 29 = .ok (.isub, 1) := by decide +kernel
theorem d_LC_findGains_30 : decode prog_3_method_12_code 30 = .ok (.iload_n 1, 1) := by decide +kernel
theorem d_LC_findGains_31 : decode prog_3_method_12_code 31 = .ok (.iand, 1) := by decide +kernel
theorem d_LC_findGains_32 : decode prog_3_method_12_code 32 = .ok (.istore_n 3, 1) := by decide +kernel
theorem d_LC_findGains_33 : decode prog_3_method_12_code 33 = .ok (.aload_n 0, 1) := by decide +kernel
theorem d_LC_findGains_34 : decode prog_3_method_12_code 34 = .ok (.getfield 21, 3) := by decide +kernel
theorem d_LC_findGains_37 : decode prog_3_method_12_code 37 = .ok (.iload_n 3, 1) := by decide +kernel
theorem d_LC_findGains_38 : decode prog_3_method_12_code 38 = .ok (.aload_n 0, 1) := by decide +kernel
theorem d_LC_findGains_39 : decode prog_3_method_12_code 39 = .ok (.getfield 21, 3) := by decide +kernel
theorem d_LC_findGains_42 : decode prog_3_method_12_code 42 = .ok (.iload_n 3, 1) := by decide +kernel
theorem d_LC_findGains_43 : decode prog_3_method_12_code 43 = .ok (.iload_n 3, 1) := by decide +kernel
theorem d_LC_findGains_44 : decode prog_3_method_12_code 44 = .ok (.iconst 1, 1) := by decide +kernel
theorem d_LC_findGains_45 : decode prog_3_method_12_code 45 = .ok (.isub, 1) := by decide +kernel
theorem d_LC_findGains_46 : decode prog_3_method_12_code 46 = .ok (.iand, 1) := by decide +kernel
theorem d_LC_findGains_47 : decode prog_3_method_12_code 47 = .ok (.iaload, 1) := by decide +kernel
theorem d_LC_findGains_48 : decode prog_3_method_12_code 48 = .ok (.aload_n 0, 1) := by decide +kernel
theorem d_LC_findGains_49 : decode prog_3_method_12_code 49 = .ok (.getfield 9, 3) := by decide +kernel
theorem d_LC_findGains_52 : decode prog_3_method_12_code 52 = .ok (.iload_n 3, 1) := by decide +kernel
theorem d_LC_findGains_53 : decode prog_3_method_12_code 53 = .ok (.invokestatic 110, 3) := by decide +kernel
theorem d_LC_findGains_56 : decode prog_3_method_12_code 56 = .ok (.iaload, 1) := by decide +kernel
theorem d_LC_findGains_57 : decode prog_3_method_12_code 57 = .ok (.iand, 1) := by decide +kernel
theorem d_LC_findGains_58 : decode prog_3_method_12_code 58 = .ok (.iastore, 1) := by decide +kernel
theorem d_LC_findGains_59 : decode prog_3_method_12_code 59 = .ok (.aload_n 0, 1) := by decide +kernel
theorem d_LC_findGains_60 : decode prog_3_method_12_code 60 = .ok (.getfield 24, 3) := by decide +kernel
theorem d_LC_findGains_63 : decode prog_3_method_12_code 63 = .ok (.iload_n 3, 1) := by decide +kernel
theorem d_LC_findGains_64 : decode prog_3_method_12_code 64 = .ok (.aload_n 0, 1) := by decide +kernel
theorem d_LC_findGains_65 : decode prog_3_method_12_code 65 = .ok (.getfield 18, 3) := by decide +kernel
theorem d_LC_findGains_68 : decode prog_3_method_12_code 68 = .ok (.iload_n 3, 1) := by decide +kernel
theorem d_LC_findGains_69 : decode prog_3_method_12_code 69 = .ok (.iaload, 1) := by decide +kernel
theorem d_LC_findGains_70 : decode prog_3_method_12_code 70 = .ok (.aload_n 0, 1) := by decide +kernel
theorem d_LC_findGains_71 : decode prog_3_method_12_code 71 = .ok (.getfield 21, 3) := by decide +kernel
theorem d_LC_findGains_74 : decode prog_3_method_12_code 74 = .ok (.iload_n 3, 1) := by decide +kernel
theorem d_LC_findGains_75 : decode prog_3_method_12_code 75 = .ok (.iaload, 1) := by decide +kernel
theorem d_LC_findGains_76 : decode prog_3_method_12_code 76 = .ok (.invokestatic 82, 3) := by decide +kernel
theorem d_LC_findGains_79 : decode prog_3_method_12_code 79 = .ok (.imul, 1) := by decide +kernel
theorem d_LC_findGains_80 : decode prog_3_method_12_code 80 = .ok (.iastore, 1) := by decide +kernel
theorem d_LC_findGains_81 : decode prog_3_method_12_code 81 = .ok (.iinc 4 1, 3) := by decide +kernel
theorem d_LC_findGains_84 : decode prog_3_method_12_code 84 = .ok (.goto (-63), 3) := by decide +kernel
theorem d_LC_findGains_87 : decode prog_3_method_12_code 87 = .ok (.return_, 1) := by decide +kernel
abbrev wd_LC_findGains (cI cJ cG cZ : ClassId) (a0 a0_open a0_clash a0_weight a0_common a0_gain a0_sum : Nat) (v0_rest : Int32) (v0_versionSeen : Int32) (v0_restSeen : Int32) (w0_open : Nat → Int32) (n0_weight : Nat) (w0_weight : Nat → Int32) (n0_common : Nat) (w0_common : Nat → Int32) (n0_gain : Nat) (w0_gain : Nat → Int32) : va_W := [(a0, .inr (4, [.ref a0_open, .ref a0_clash, .ref a0_weight, .ref a0_common, .ref a0_gain, .ref a0_sum, .int v0_rest, .int v0_versionSeen, .int v0_restSeen])), (a0_open, .inl (cI, 12, .inl w0_open)), (a0_weight, .inl (cI, n0_weight, .inl w0_weight)), (a0_common, .inl (cI, n0_common, .inl w0_common)), (a0_gain, .inl (cI, n0_gain, .inl w0_gain))]
abbrev us_LC_findGains : List Cond := .code y_LC_findGains prog_3_method_12_code 5 none :: gtbl
abbrev rm_LC_findGains : Room := { frames := 2, cells := 0, slots := 0, locals := 40 }
def m_LC_findGains (F : Nat) (v0_rest : Int32) (v0_versionSeen : Int32) (v0_restSeen : Int32) (w0_open : Nat → Int32) (n0_weight : Nat) (w0_weight : Nat → Int32) (n0_common : Nat) (w0_common : Nat → Int32) (n0_gain : Nat) (w0_gain : Nat → Int32) (p1 : Int32) : Option ((Nat → Int32) × (Nat → Int32)) :=
  gB ((1 : Int32) <<< ((bitc p1) &&& 31)) (fun x2_1 =>
  gC (inb 0 n0_common) (
  gL (fun (k_21 : (Int32 × Int32 × (Nat → Int32) × (Nat → Int32)) → Option ((Nat → Int32) × (Nat → Int32))) (z_21 : Int32 × Int32 × (Nat → Int32) × (Nat → Int32)) => match z_21 with
  | (x3_3, x4_4, w0_common_5, w0_gain_6) =>
  if x2_1 ≤ x4_4 then (
    some (w0_common_5, w0_gain_6)
  ) else (
    gB ((x3_3 - p1) &&& p1) (fun x3_8 =>
    gC (inb (x3_8 &&& (x3_8 - 1)) n0_common) (
    gM (m_CS_lowestOf F x3_8) (fun q_10 =>
    gC (inb q_10 12) (
    gC (inb x3_8 n0_common) (
    gC (inb x3_8 n0_weight) (
    gC (inb x3_8 n0_common) (
    gC (inb x3_8 n0_gain) (
    gB (x4_4 + 1) (fun x4_18 =>
    k_21 (x3_8, x4_18, upd w0_common_5 x3_8.toNatClampNeg ((w0_common_5 (x3_8 &&& (x3_8 - 1)).toNatClampNeg) &&& (w0_open q_10.toNatClampNeg)), upd w0_gain_6 x3_8.toNatClampNeg ((w0_weight x3_8.toNatClampNeg) * (bitc ((upd w0_common_5 x3_8.toNatClampNeg ((w0_common_5 (x3_8 &&& (x3_8 - 1)).toNatClampNeg) &&& (w0_open q_10.toNatClampNeg))) x3_8.toNatClampNeg)))))))))))))
  )
  ) F (0, 1, upd w0_common (0 : Int32).toNatClampNeg 4095, w0_gain)))
set_option maxHeartbeats 4000000 in
set_option maxRecDepth 100000 in
theorem c_LC_findGains (l : Launch) (dC : Nat → ClassId) (dI : Nat → Nat → Nat) (cI cJ cG cZ : ClassId) (a0 a0_open a0_clash a0_weight a0_common a0_gain a0_sum : Nat) (sz : Nat) (F : Nat) (v0_rest : Int32) (v0_versionSeen : Int32) (v0_restSeen : Int32) (w0_open : Nat → Int32) (n0_weight : Nat) (w0_weight : Nat → Int32) (n0_common : Nat) (w0_common : Nat → Int32) (n0_gain : Nat) (w0_gain : Nat → Int32) (p1 : Int32) (o_w0_common : Nat → Int32) (o_w0_gain : Nat → Int32) (hm : m_LC_findGains F v0_rest v0_versionSeen v0_restSeen w0_open n0_weight w0_weight n0_common w0_common n0_gain w0_gain p1 = some (o_w0_common, o_w0_gain)) : Met l y_LC_findGains us_LC_findGains rm_LC_findGains (PcS (dC, dI) (tyL cI cJ cG cZ) [.ref a0, .int p1] sz (wd_LC_findGains cI cJ cG cZ a0 a0_open a0_clash a0_weight a0_common a0_gain a0_sum v0_rest v0_versionSeen v0_restSeen w0_open n0_weight w0_weight n0_common w0_common n0_gain w0_gain)) (va_Qv (fun (_ : Unit) => True) (fun _ t => PoS (dC, dI) (tyL cI cJ cG cZ) (wd_LC_findGains cI cJ cG cZ a0 a0_open a0_clash a0_weight a0_common a0_gain a0_sum v0_rest v0_versionSeen v0_restSeen w0_open n0_weight w0_weight n0_common o_w0_common n0_gain o_w0_gain) (va_A (wd_LC_findGains cI cJ cG cZ a0 a0_open a0_clash a0_weight a0_common a0_gain a0_sum v0_rest v0_versionSeen v0_restSeen w0_open n0_weight w0_weight n0_common w0_common n0_gain w0_gain) sz) t) (va_A (wd_LC_findGains cI cJ cG cZ a0 a0_open a0_clash a0_weight a0_common a0_gain a0_sum v0_rest v0_versionSeen v0_restSeen w0_open n0_weight w0_weight n0_common w0_common n0_gain w0_gain) sz)) 0 0 (va_A (wd_LC_findGains cI cJ cG cZ a0 a0_open a0_clash a0_weight a0_common a0_gain a0_sum v0_rest v0_versionSeen v0_restSeen w0_open n0_weight w0_weight n0_common w0_common n0_gain w0_gain) sz) := by
  refine Met.ofW (cc := prog_3_method_12_code) (maxL := 5) (ret := none) (by decide) rfl ?_
  intro p e s m args below meth c s₁ B hml hv
  obtain ⟨rfl, hsz, hP, hK, hD0, hNw⟩ := hv
  have hx := B.exec
  have hb := B.bytes
  have hr := B.returns
  have htt : ∀ w ∈ gtbl, w.before _ s = true := fun w h => atoms_spec (ws := us_LC_findGains) B.pre w (List.mem_cons_of_mem _ h)
  have hown : s.vm.findClass R_LC = some m.cls := findClass_of_methodNamed B.named
  have hlocks := B.notSynchronized
  subst hsz
  have hD := hD0.self (sz := s.heap.size)
  generalize hAe : va_A (wd_LC_findGains cI cJ cG cZ a0 a0_open a0_clash a0_weight a0_common a0_gain a0_sum v0_rest v0_versionSeen v0_restSeen w0_open n0_weight w0_weight n0_common w0_common n0_gain w0_gain) s.heap.size = A at hD ⊢
  have hA : ∀ q : Nat, s.heap.size ≤ q → A q := fun q h => by rw [← hAe]; exact Or.inr h
  clear hAe hD0
  have hS : va_S A s.heap s.heap [] := va_S.rf
  have hl := lv_entry ([.ref a0, .int p1]) (n := 5) (Nat.le_of_ble_eq_true rfl)
  rw [lg_entry_eq]
  generalize (lg_sl ([.ref a0, .int p1]) ++ List.replicate (5 - (lg_sl ([.ref a0, .int p1])).length) Slot.unset).toArray = ls at hl ⊢
  have hl : lv_has ls 5 [(0, .ref a0), (1, .int p1)] := hl
  generalize hH : s.heap = H at hP ⊢
  have hS : va_S A s.heap H [] := hH ▸ hS
  generalize hLo : ([] : List Loc) = locs at hS ⊢
  clear hH hLo
  unfold m_LC_findGains at hm
  refine lv_iconst (v := 1) hx hb d_LC_findGains_0 (by decide) ?_
  refine lv_iload_n hx hb d_LC_findGains_1 rfl (lv_at hl 1 rfl) ?_
  refine gx_bit hx hb hml hown htt kt_463 hK hNw hP hD hS hA hl.1 (lv_room (Nat.le_of_ble_eq_true rfl)) (Nat.le_of_ble_eq_true rfl) (Nat.le_of_ble_eq_true rfl) (Nat.zero_le _) (Nat.zero_le _) d_LC_findGains_2 (fun H locs hP hD hS => ?_)
  refine lv_ishl hx hb d_LC_findGains_5 ?_
  refine lv_topi (fun x2_1 ex2_1 => ?_)
  have hm := gB_at ex2_1 hm
  refine lv_istore_n (lv' := [(2, .int x2_1), (0, .ref a0), (1, .int p1)]) hx hb d_LC_findGains_6 rfl hl (by decide) rfl (fun ls hl => ?_)
  refine lv_iconst (v := 0) hx hb d_LC_findGains_7 (by decide) ?_
  refine lv_istore_n (lv' := [(3, .int 0), (2, .int x2_1), (0, .ref a0), (1, .int p1)]) hx hb d_LC_findGains_8 rfl hl (by decide) rfl (fun ls hl => ?_)
  refine lv_aload_n hx hb d_LC_findGains_9 rfl (lv_at hl 2 rfl) ?_
  refine va_get (D := (dC, dI)) (ci := 4) (v := .ref a0_common) (C := R_LC) (T := T_LC) (N := 9) hx hb htt hin_LC hown hK hP 0 rfl rfl 3 (by decide) (htt _ kt_149) (fun _ h9 => h9) rfl d_LC_findGains_10 ?_
  refine lv_iconst (v := 0) hx hb d_LC_findGains_13 (by decide) ?_
  refine lv_sipush (v := 4095) hx hb d_LC_findGains_14 (by decide) ?_
  obtain ⟨hi_2, hm⟩ := gC_e hm
  refine va_iast hx hb hK hP hD hS 3 0 rfl rfl (inb_vp hi_2) d_LC_findGains_17 (fun H locs hP hD hS => ?_)
  have hP : va_P (dC, dI) vwCl (wd_LC_findGains cI cJ cG cZ a0 a0_open a0_clash a0_weight a0_common a0_gain a0_sum v0_rest v0_versionSeen v0_restSeen w0_open n0_weight w0_weight n0_common (upd w0_common (0 : Int32).toNatClampNeg 4095) n0_gain w0_gain) H := hP
  have hD : va_D A (wd_LC_findGains cI cJ cG cZ a0 a0_open a0_clash a0_weight a0_common a0_gain a0_sum v0_rest v0_versionSeen v0_restSeen w0_open n0_weight w0_weight n0_common (upd w0_common (0 : Int32).toNatClampNeg 4095) n0_gain w0_gain) := hD
  refine lv_iconst (v := 1) hx hb d_LC_findGains_18 (by decide) ?_
  refine lv_istore (lv' := [(4, .int 1), (3, .int 0), (2, .int x2_1), (0, .ref a0), (1, .int p1)]) hx hb d_LC_findGains_19 hl (by decide) rfl (fun ls hl => ?_)
  refine gL_e (P := (fun (z_21 : Int32 × Int32 × (Nat → Int32) × (Nat → Int32)) => ∀ (x3_3 : Int32), ∀ (x4_4 : Int32), ∀ (w0_common_5 : Nat → Int32), ∀ (w0_gain_6 : Nat → Int32), z_21 = (x3_3, x4_4, w0_common_5, w0_gain_6) → ∀ (ls : Array Slot) (H : Heap) (locs : List Loc), lv_has ls 5 [(0, .ref a0), (1, .int p1), (2, .int x2_1), (3, .int x3_3), (4, .int x4_4)] → va_P (dC, dI) vwCl (wd_LC_findGains cI cJ cG cZ a0 a0_open a0_clash a0_weight a0_common a0_gain a0_sum v0_rest v0_versionSeen v0_restSeen w0_open n0_weight w0_weight n0_common w0_common_5 n0_gain w0_gain_6) H → va_D A (wd_LC_findGains cI cJ cG cZ a0 a0_open a0_clash a0_weight a0_common a0_gain a0_sum v0_rest v0_versionSeen v0_restSeen w0_open n0_weight w0_weight n0_common w0_common_5 n0_gain w0_gain_6) → va_S A s.heap H locs → W p l e (headSpec us_LC_findGains rm_LC_findGains).room s m ([.ref a0, .int p1] : List Value).toArray below meth c H locs 0 0 (MQ below (va_Qv (fun (_ : Unit) => True) (fun _ t => PoS (dC, dI) (tyL cI cJ cG cZ) (wd_LC_findGains cI cJ cG cZ a0 a0_open a0_clash a0_weight a0_common a0_gain a0_sum v0_rest v0_versionSeen v0_restSeen w0_open n0_weight w0_weight n0_common o_w0_common n0_gain o_w0_gain) A t) A) ([.ref a0, .int p1] : List Value).toArray s 0 0 A) (F0 m 21 ls []))) hm (fun k_21 z_21 ih_21 hm => ?_) _ _ _ _ rfl ls H locs (lv_sub hl [3, 4, 2, 1, 0] rfl) hP hD hS
  intro x3_3 x4_4 w0_common_5 w0_gain_6 hz ls H locs hl hP hD hS
  subst hz
  dsimp only at hm
  refine lv_iload hx hb d_LC_findGains_21 (lv_at hl 4 rfl) ?_
  refine lv_iload_n hx hb d_LC_findGains_23 rfl (lv_at hl 2 rfl) ?_
  refine lv_icmp_ge (tgt := 87) hx hb d_LC_findGains_24 (by decide) (fun c_7 => ?_) (fun c_7 => ?_)
  · have hm := ite_t c_7 hm
    cases hm
    exact W.vret hx hb hr (fun t ht hW => ⟨⟨(), rfl, trivial, by rw [ht]; exact hP, va_K.moved hW.alike hK, hD⟩, hS.F ht⟩) hS.2.2 d_LC_findGains_87
  · have hm := ite_f c_7 hm
    refine lv_iload_n hx hb d_LC_findGains_27 rfl (lv_at hl 3 rfl) ?_
    refine lv_iload_n hx hb d_LC_findGains_28 rfl (lv_at hl 1 rfl) ?_
    refine lv_isub hx hb d_LC_findGains_29 ?_
    refine lv_iload_n hx hb d_LC_findGains_30 rfl (lv_at hl 1 rfl) ?_
    refine lv_iand hx hb d_LC_findGains_31 ?_
    refine lv_topi (fun x3_8 ex3_8 => ?_)
    have hm := gB_at ex3_8 hm
    refine lv_istore_n (lv' := [(3, .int x3_8), (0, .ref a0), (1, .int p1), (2, .int x2_1), (4, .int x4_4)]) hx hb d_LC_findGains_32 rfl hl (by decide) rfl (fun ls hl => ?_)
    refine lv_aload_n hx hb d_LC_findGains_33 rfl (lv_at hl 1 rfl) ?_
    refine va_get (D := (dC, dI)) (ci := 4) (v := .ref a0_common) (C := R_LC) (T := T_LC) (N := 9) hx hb htt hin_LC hown hK hP 0 rfl rfl 3 (by decide) (htt _ kt_149) (fun _ h9 => h9) rfl d_LC_findGains_34 ?_
    refine lv_iload_n hx hb d_LC_findGains_37 rfl (lv_at hl 0 rfl) ?_
    refine lv_aload_n hx hb d_LC_findGains_38 rfl (lv_at hl 1 rfl) ?_
    refine va_get (D := (dC, dI)) (ci := 4) (v := .ref a0_common) (C := R_LC) (T := T_LC) (N := 9) hx hb htt hin_LC hown hK hP 0 rfl rfl 3 (by decide) (htt _ kt_149) (fun _ h9 => h9) rfl d_LC_findGains_39 ?_
    refine lv_iload_n hx hb d_LC_findGains_42 rfl (lv_at hl 0 rfl) ?_
    refine lv_iload_n hx hb d_LC_findGains_43 rfl (lv_at hl 0 rfl) ?_
    refine lv_iconst (v := 1) hx hb d_LC_findGains_44 (by decide) ?_
    refine lv_isub hx hb d_LC_findGains_45 ?_
    refine lv_iand hx hb d_LC_findGains_46 ?_
    obtain ⟨hi_9, hm⟩ := gC_e hm
    refine va_iald hx hb hK hP 3 0 rfl rfl (inb_vp hi_9) d_LC_findGains_47 ?_
    refine lv_aload_n hx hb d_LC_findGains_48 rfl (lv_at hl 1 rfl) ?_
    refine va_get (D := (dC, dI)) (ci := 4) (v := .ref a0_open) (C := R_LC) (T := T_LC) (N := 9) hx hb htt hin_LC hown hK hP 0 rfl rfl 0 (by decide) (htt _ kt_146) (fun _ h9 => h9) rfl d_LC_findGains_49 ?_
    refine lv_iload_n hx hb d_LC_findGains_52 rfl (lv_at hl 0 rfl) ?_
    obtain ⟨q_10, hc_11, hm⟩ := gM_e hm
    have hPc : va_P (dC, dI) vwCl (wd_CS_lowestOf cI cJ cG cZ) H := hP.sub [] rfl
    have hDc : va_D A (wd_CS_lowestOf cI cJ cG cZ) := hD.sub [] (by decide) rfl
    have hFc : ∀ q, va_A (wd_CS_lowestOf cI cJ cG cZ) H.size q → A q := va_free hD hS hA [] rfl
    refine va_calli (va_runSN (host := R_CS) (As := [.int x3_8]) (rest := [.ref a0_open, .int (w0_common_5 (x3_8 &&& (x3_8 - 1)).toNatClampNeg), .int x3_8, .ref a0_common]) ⟨hx, hb, hml, hown, htt⟩ (c_CS_lowestOf l dC dI cI cJ cG cZ H.size F x3_8 q_10 hc_11) ⟨va_cnB 1 htt (gdN kt_427) rfl rfl rfl (hNw _ kt_492) (htt _ kt_1) (by decide +kernel) ⟨(Nat.le_of_ble_eq_true rfl), (Nat.le_of_ble_eq_true rfl)⟩, htt _ kt_426, trivial⟩ ⟨PcS_blind, PcS_in hPc hK hDc hNw⟩ rfl rfl hl.1 rfl (lv_room (Nat.le_of_ble_eq_true rfl)) d_LC_findGains_53 ⟨Nat.zero_le _, Nat.zero_le _⟩) hS (fun q _ h => hFc q h) hFc (fun r_12 u t H1 locs ht hvm hw hB hz1 hk1 hS => ?_)
    obtain ⟨hP1, hK1, hD1⟩ := hB
    rw [ht] at hP1
    subst hw
    obtain ⟨hP, hD⟩ := va_join (wr := [(a0, .inr (4, [.ref a0_open, .ref a0_clash, .ref a0_weight, .ref a0_common, .ref a0_gain, .ref a0_sum, .int v0_rest, .int v0_versionSeen, .int v0_restSeen])), (a0_open, .inl (cI, 12, .inl w0_open)), (a0_weight, .inl (cI, n0_weight, .inl w0_weight)), (a0_common, .inl (cI, n0_common, .inl w0_common_5)), (a0_gain, .inl (cI, n0_gain, .inl w0_gain_6))]) (w1 := (wd_CS_lowestOf cI cJ cG cZ)) hP hD [] [0, 1, 2, 3, 4] rfl rfl (by decide) (by decide) hk1 hFc hP1 hD1
    have hP : va_P (dC, dI) vwCl (wd_LC_findGains cI cJ cG cZ a0 a0_open a0_clash a0_weight a0_common a0_gain a0_sum v0_rest v0_versionSeen v0_restSeen w0_open n0_weight w0_weight n0_common w0_common_5 n0_gain w0_gain_6) H1 := hP.sub [0, 1, 2, 3, 4] rfl
    have hD : va_D A (wd_LC_findGains cI cJ cG cZ a0 a0_open a0_clash a0_weight a0_common a0_gain a0_sum v0_rest v0_versionSeen v0_restSeen w0_open n0_weight w0_weight n0_common w0_common_5 n0_gain w0_gain_6) := hD.sub [0, 1, 2, 3, 4] (by decide) rfl
    clear hP1 hK1 hD1 hk1 hPc hDc hFc ht hvm hz1
    generalize H1 = H at hP hS ⊢
    obtain ⟨hi_13, hm⟩ := gC_e hm
    refine va_iald hx hb hK hP 1 0 rfl rfl (inb_vp hi_13) d_LC_findGains_56 ?_
    refine lv_iand hx hb d_LC_findGains_57 ?_
    obtain ⟨hi_14, hm⟩ := gC_e hm
    refine va_iast hx hb hK hP hD hS 3 0 rfl rfl (inb_vp hi_14) d_LC_findGains_58 (fun H locs hP hD hS => ?_)
    have hP : va_P (dC, dI) vwCl (wd_LC_findGains cI cJ cG cZ a0 a0_open a0_clash a0_weight a0_common a0_gain a0_sum v0_rest v0_versionSeen v0_restSeen w0_open n0_weight w0_weight n0_common (upd w0_common_5 x3_8.toNatClampNeg ((w0_common_5 (x3_8 &&& (x3_8 - 1)).toNatClampNeg) &&& (w0_open q_10.toNatClampNeg))) n0_gain w0_gain_6) H := hP
    have hD : va_D A (wd_LC_findGains cI cJ cG cZ a0 a0_open a0_clash a0_weight a0_common a0_gain a0_sum v0_rest v0_versionSeen v0_restSeen w0_open n0_weight w0_weight n0_common (upd w0_common_5 x3_8.toNatClampNeg ((w0_common_5 (x3_8 &&& (x3_8 - 1)).toNatClampNeg) &&& (w0_open q_10.toNatClampNeg))) n0_gain w0_gain_6) := hD
    refine lv_aload_n hx hb d_LC_findGains_59 rfl (lv_at hl 1 rfl) ?_
    refine va_get (D := (dC, dI)) (ci := 4) (v := .ref a0_gain) (C := R_LC) (T := T_LC) (N := 9) hx hb htt hin_LC hown hK hP 0 rfl rfl 4 (by decide) (htt _ kt_150) (fun _ h9 => h9) rfl d_LC_findGains_60 ?_
    refine lv_iload_n hx hb d_LC_findGains_63 rfl (lv_at hl 0 rfl) ?_
    refine lv_aload_n hx hb d_LC_findGains_64 rfl (lv_at hl 1 rfl) ?_
    refine va_get (D := (dC, dI)) (ci := 4) (v := .ref a0_weight) (C := R_LC) (T := T_LC) (N := 9) hx hb htt hin_LC hown hK hP 0 rfl rfl 2 (by decide) (htt _ kt_148) (fun _ h9 => h9) rfl d_LC_findGains_65 ?_
    refine lv_iload_n hx hb d_LC_findGains_68 rfl (lv_at hl 0 rfl) ?_
    obtain ⟨hi_15, hm⟩ := gC_e hm
    refine va_iald hx hb hK hP 2 0 rfl rfl (inb_vp hi_15) d_LC_findGains_69 ?_
    refine lv_aload_n hx hb d_LC_findGains_70 rfl (lv_at hl 1 rfl) ?_
    refine va_get (D := (dC, dI)) (ci := 4) (v := .ref a0_common) (C := R_LC) (T := T_LC) (N := 9) hx hb htt hin_LC hown hK hP 0 rfl rfl 3 (by decide) (htt _ kt_149) (fun _ h9 => h9) rfl d_LC_findGains_71 ?_
    refine lv_iload_n hx hb d_LC_findGains_74 rfl (lv_at hl 0 rfl) ?_
    obtain ⟨hi_16, hm⟩ := gC_e hm
    refine va_iald hx hb hK hP 3 0 rfl rfl (inb_vp hi_16) d_LC_findGains_75 ?_
    refine gx_bit hx hb hml hown htt kt_463 hK hNw hP hD hS hA hl.1 (lv_room (Nat.le_of_ble_eq_true rfl)) (Nat.le_of_ble_eq_true rfl) (Nat.le_of_ble_eq_true rfl) (Nat.zero_le _) (Nat.zero_le _) d_LC_findGains_76 (fun H locs hP hD hS => ?_)
    refine lv_imul hx hb d_LC_findGains_79 ?_
    obtain ⟨hi_17, hm⟩ := gC_e hm
    refine va_iast hx hb hK hP hD hS 4 0 rfl rfl (inb_vp hi_17) d_LC_findGains_80 (fun H locs hP hD hS => ?_)
    have hP : va_P (dC, dI) vwCl (wd_LC_findGains cI cJ cG cZ a0 a0_open a0_clash a0_weight a0_common a0_gain a0_sum v0_rest v0_versionSeen v0_restSeen w0_open n0_weight w0_weight n0_common (upd w0_common_5 x3_8.toNatClampNeg ((w0_common_5 (x3_8 &&& (x3_8 - 1)).toNatClampNeg) &&& (w0_open q_10.toNatClampNeg))) n0_gain (upd w0_gain_6 x3_8.toNatClampNeg ((w0_weight x3_8.toNatClampNeg) * (bitc ((upd w0_common_5 x3_8.toNatClampNeg ((w0_common_5 (x3_8 &&& (x3_8 - 1)).toNatClampNeg) &&& (w0_open q_10.toNatClampNeg))) x3_8.toNatClampNeg))))) H := hP
    have hD : va_D A (wd_LC_findGains cI cJ cG cZ a0 a0_open a0_clash a0_weight a0_common a0_gain a0_sum v0_rest v0_versionSeen v0_restSeen w0_open n0_weight w0_weight n0_common (upd w0_common_5 x3_8.toNatClampNeg ((w0_common_5 (x3_8 &&& (x3_8 - 1)).toNatClampNeg) &&& (w0_open q_10.toNatClampNeg))) n0_gain (upd w0_gain_6 x3_8.toNatClampNeg ((w0_weight x3_8.toNatClampNeg) * (bitc ((upd w0_common_5 x3_8.toNatClampNeg ((w0_common_5 (x3_8 &&& (x3_8 - 1)).toNatClampNeg) &&& (w0_open q_10.toNatClampNeg))) x3_8.toNatClampNeg))))) := hD
    obtain ⟨x4_18, ex4_18⟩ : ∃ y : Int32, y = x4_4 + 1 := ⟨_, rfl⟩
    have hm := gB_at ex4_18 hm
    refine lv_iinc (v := x4_18) (lv' := [(4, .int x4_18), (3, .int x3_8), (0, .ref a0), (1, .int p1), (2, .int x2_1)]) hx hb d_LC_findGains_81 hl (k := 4) rfl (by rw [ex4_18]; rfl) (by decide) rfl (fun ls hl => ?_)
    refine lv_goto (tgt := 21) hx hb d_LC_findGains_84 (by decide) ?_
    exact ih_21 _ hm _ _ _ _ rfl ls H locs (lv_sub hl [2, 3, 4, 1, 0] rfl) hP hD hS
theorem d_LC_sumOverBlocks_0 : decode prog_3_method_13_code 0 = .ok (.iload_n 1, 1) := by decide +kernel
theorem d_LC_sumOverBlocks_1 : decode prog_3_method_13_code 1 = .ok (.iload_n 1, 1) := by decide +kernel
theorem d_LC_sumOverBlocks_2 : decode prog_3_method_13_code 2 = .ok (.iconst 1, 1) := by decide +kernel
theorem d_LC_sumOverBlocks_3 : decode prog_3_method_13_code 3 = .ok (.isub, 1) := by decide +kernel
theorem d_LC_sumOverBlocks_4 : decode prog_3_method_13_code 4 = .ok (.iand, 1) := by decide +kernel
theorem d_LC_sumOverBlocks_5 : decode prog_3_method_13_code 5 = .ok (.istore_n 2, 1) := by decide +kernel
theorem d_LC_sumOverBlocks_6 : decode prog_3_method_13_code 6 = .ok (.iconst 1, 1) := by decide +kernel
theorem d_LC_sumOverBlocks_7 : decode prog_3_method_13_code 7 = .ok (.iload_n 2, 1) := by decide +kernel
theorem d_LC_sumOverBlocks_8 : decode prog_3_method_13_code 8 = .ok (.invokestatic 82, 3) := by decide +kernel
theorem d_LC_sumOverBlocks_11 : decode prog_3_method_13_code 11 = .ok (.ishl, 1) := by decide +kernel
theorem d_LC_sumOverBlocks_12 : decode prog_3_method_13_code 12 = .ok (.istore_n 3, 1) := by decide +kernel
theorem d_LC_sumOverBlocks_13 : decode prog_3_method_13_code 13 = .ok (.lconst 0, 1) := by decide +kernel
theorem d_LC_sumOverBlocks_14 : decode prog_3_method_13_code 14 = .ok (.lstore 4, 2) := by decide +kernel
theorem d_LC_sumOverBlocks_16 : decode prog_3_method_13_code 16 = .ok (.iconst 0, 1) := by decide +kernel
theorem d_LC_sumOverBlocks_17 : decode prog_3_method_13_code 17 = .ok (.istore 6, 2) := by decide +kernel
theorem d_LC_sumOverBlocks_19 : decode prog_3_method_13_code 19 = .ok (.iconst 0, 1) := by decide +kernel
theorem d_LC_sumOverBlocks_20 : decode prog_3_method_13_code 20 = .ok (.istore 7, 2) := by decide +kernel
theorem d_LC_sumOverBlocks_22 : decode prog_3_method_13_code 22 = .ok (.iload 7, 2) := by decide +kernel
theorem d_LC_sumOverBlocks_24 : decode prog_3_method_13_code 24 = .ok (.iload_n 3, 1) := by decide +kernel
theorem d_LC_sumOverBlocks_25 : decode prog_3_method_13_code 25 = .ok (.if_icmp .ge 40, 3) := by decide +kernel
theorem d_LC_sumOverBlocks_28 : decode prog_3_method_13_code 28 = .ok (.lload 4, 2) := by decide +kernel
theorem d_LC_sumOverBlocks_30 : decode prog_3_method_13_code 30 = .ok (.aload_n 0, 1) := by decide +kernel
theorem d_LC_sumOverBlocks_31 : decode prog_3_method_13_code 31 = .ok (.getfield 24, 3) := by decide +kernel
theorem d_LC_sumOverBlocks_34 : decode prog_3_method_13_code 34 = .ok (.iload_n 1, 1) := by decide +kernel
theorem d_LC_sumOverBlocks_35 : decode prog_3_method_13_code 35 = .ok (.iload 6, 2) := by decide +kernel
theorem d_LC_sumOverBlocks_37 : decode prog_3_method_13_code 37 = .ok (.ixor, 1) := by decide +kernel
theorem d_LC_sumOverBlocks_38 : decode prog_3_method_13_code 38 = .ok (.iaload, 1) := by decide +kernel
theorem d_LC_sumOverBlocks_39 : decode prog_3_method_13_code 39 = .ok (.i2l, 1) := by decide +kernel
theorem d_LC_sumOverBlocks_40 : decode prog_3_method_13_code 40 = .ok (.aload_n 0, 1) := by decide +kernel
theorem d_LC_sumOverBlocks_41 : decode prog_3_method_13_code 41 = .ok (.getfield 27, 3) := by decide +kernel
theorem d_LC_sumOverBlocks_44 : decode prog_3_method_13_code 44 = .ok (.iload 6, 2) := by decide +kernel
theorem d_LC_sumOverBlocks_46 : decode prog_3_method_13_code 46 = .ok (.laload, 1) := by decide +kernel
theorem d_LC_sumOverBlocks_47 : decode prog_3_method_13_code 47 = .ok (.lmul, 1) := by decide +kernel
theorem d_LC_sumOverBlocks_48 : decode prog_3_method_13_code 48 = .ok (.ladd, 1) := by decide +kernel
theorem d_LC_sumOverBlocks_49 : decode prog_3_method_13_code 49 = .ok (.lstore 4, 2) := by decide +kernel
theorem d_LC_sumOverBlocks_51 : decode prog_3_method_13_code 51 = .ok (.iload 6, 2) := by decide +kernel
theorem d_LC_sumOverBlocks_53 : decode prog_3_method_13_code 53 = .ok (.iload_n 2, 1) := by decide +kernel
theorem d_LC_sumOverBlocks_54 : decode prog_3_method_13_code 54 = .ok (.isub, 1) := by decide +kernel
theorem d_LC_sumOverBlocks_55 : decode prog_3_method_13_code 55 = .ok (.iload_n 2, 1) := by decide +kernel
theorem d_LC_sumOverBlocks_56 : decode prog_3_method_13_code 56 = .ok (.iand, 1) := by decide +kernel
theorem d_LC_sumOverBlocks_57 : decode prog_3_method_13_code 57 = .ok (.istore 6, 2) := by decide +kernel
theorem d_LC_sumOverBlocks_59 : decode prog_3_method_13_code 59 = .ok (.iinc 7 1, 3) := by decide +kernel
theorem d_LC_sumOverBlocks_62 : decode prog_3_method_13_code 62 = .ok (.goto (-40), 3) := by decide +kernel
theorem d_LC_sumOverBlocks_65 : decode prog_3_method_13_code 65 = .ok (.lload 4, 2) := by decide +kernel
theorem d_LC_sumOverBlocks_67 : decode prog_3_method_13_code 67 = .ok (.lreturn, 1) := by decide +kernel
abbrev wd_LC_sumOverBlocks (cI cJ cG cZ : ClassId) (a0 a0_open a0_clash a0_weight a0_common a0_gain a0_sum : Nat) (v0_rest : Int32) (v0_versionSeen : Int32) (v0_restSeen : Int32) (n0_gain : Nat) (w0_gain : Nat → Int32) (n0_sum : Nat) (w0_sum : Nat → Int64) : va_W := [(a0, .inr (4, [.ref a0_open, .ref a0_clash, .ref a0_weight, .ref a0_common, .ref a0_gain, .ref a0_sum, .int v0_rest, .int v0_versionSeen, .int v0_restSeen])), (a0_gain, .inl (cI, n0_gain, .inl w0_gain)), (a0_sum, .inl (cJ, n0_sum, .inr (.inl w0_sum)))]
abbrev us_LC_sumOverBlocks : List Cond := .code y_LC_sumOverBlocks prog_3_method_13_code 8 (some .long) :: gtbl
abbrev rm_LC_sumOverBlocks : Room := { frames := 1, cells := 0, slots := 0, locals := 20 }
def m_LC_sumOverBlocks (F : Nat) (v0_rest : Int32) (v0_versionSeen : Int32) (v0_restSeen : Int32) (n0_gain : Nat) (w0_gain : Nat → Int32) (n0_sum : Nat) (w0_sum : Nat → Int64) (p1 : Int32) : Option (Int64) :=
  gB (p1 &&& (p1 - 1)) (fun x2_1 =>
  gB ((1 : Int32) <<< ((bitc x2_1) &&& 31)) (fun x3_2 =>
  gL (fun (k_22 : (Int64 × Int32 × Int32) → Option (Int64)) (z_22 : Int64 × Int32 × Int32) => match z_22 with
  | (x4_3, x6_4, x7_5) =>
  if x3_2 ≤ x7_5 then (
    some x4_3
  ) else (
    gC (inb (p1 ^^^ x6_4) n0_gain) (
    gC (inb x6_4 n0_sum) (
    gB (x4_3 + (((w0_gain (p1 ^^^ x6_4).toNatClampNeg).toInt64) * (w0_sum x6_4.toNatClampNeg))) (fun x4_9 =>
    gB ((x6_4 - x2_1) &&& x2_1) (fun x6_10 =>
    gB (x7_5 + 1) (fun x7_11 =>
    k_22 (x4_9, x6_10, x7_11))))))
  )
  ) F (0, 0, 0)))
set_option maxHeartbeats 4000000 in
set_option maxRecDepth 100000 in
theorem c_LC_sumOverBlocks (l : Launch) (dC : Nat → ClassId) (dI : Nat → Nat → Nat) (cI cJ cG cZ : ClassId) (a0 a0_open a0_clash a0_weight a0_common a0_gain a0_sum : Nat) (sz : Nat) (F : Nat) (v0_rest : Int32) (v0_versionSeen : Int32) (v0_restSeen : Int32) (n0_gain : Nat) (w0_gain : Nat → Int32) (n0_sum : Nat) (w0_sum : Nat → Int64) (p1 : Int32) (ret : Int64) (hm : m_LC_sumOverBlocks F v0_rest v0_versionSeen v0_restSeen n0_gain w0_gain n0_sum w0_sum p1 = some ret) : Met l y_LC_sumOverBlocks us_LC_sumOverBlocks rm_LC_sumOverBlocks (PcS (dC, dI) (tyL cI cJ cG cZ) [.ref a0, .int p1] sz (wd_LC_sumOverBlocks cI cJ cG cZ a0 a0_open a0_clash a0_weight a0_common a0_gain a0_sum v0_rest v0_versionSeen v0_restSeen n0_gain w0_gain n0_sum w0_sum)) (va_Ql (fun (r : Int64) (_ : Unit) => ret = r) (fun _ t => PoS (dC, dI) (tyL cI cJ cG cZ) (wd_LC_sumOverBlocks cI cJ cG cZ a0 a0_open a0_clash a0_weight a0_common a0_gain a0_sum v0_rest v0_versionSeen v0_restSeen n0_gain w0_gain n0_sum w0_sum) (va_A (wd_LC_sumOverBlocks cI cJ cG cZ a0 a0_open a0_clash a0_weight a0_common a0_gain a0_sum v0_rest v0_versionSeen v0_restSeen n0_gain w0_gain n0_sum w0_sum) sz) t) (va_A (wd_LC_sumOverBlocks cI cJ cG cZ a0 a0_open a0_clash a0_weight a0_common a0_gain a0_sum v0_rest v0_versionSeen v0_restSeen n0_gain w0_gain n0_sum w0_sum) sz)) 0 0 (va_A (wd_LC_sumOverBlocks cI cJ cG cZ a0 a0_open a0_clash a0_weight a0_common a0_gain a0_sum v0_rest v0_versionSeen v0_restSeen n0_gain w0_gain n0_sum w0_sum) sz) := by
  refine Met.ofW (cc := prog_3_method_13_code) (maxL := 8) (ret := (some .long)) (by decide) rfl ?_
  intro p e s m args below meth c s₁ B hml hv
  obtain ⟨rfl, hsz, hP, hK, hD0, hNw⟩ := hv
  have hx := B.exec
  have hb := B.bytes
  have hr := B.returns
  have htt : ∀ w ∈ gtbl, w.before _ s = true := fun w h => atoms_spec (ws := us_LC_sumOverBlocks) B.pre w (List.mem_cons_of_mem _ h)
  have hown : s.vm.findClass R_LC = some m.cls := findClass_of_methodNamed B.named
  have hlocks := B.notSynchronized
  subst hsz
  have hD := hD0.self (sz := s.heap.size)
  generalize hAe : va_A (wd_LC_sumOverBlocks cI cJ cG cZ a0 a0_open a0_clash a0_weight a0_common a0_gain a0_sum v0_rest v0_versionSeen v0_restSeen n0_gain w0_gain n0_sum w0_sum) s.heap.size = A at hD ⊢
  have hA : ∀ q : Nat, s.heap.size ≤ q → A q := fun q h => by rw [← hAe]; exact Or.inr h
  clear hAe hD0
  have hS : va_S A s.heap s.heap [] := va_S.rf
  have hl := lv_entry ([.ref a0, .int p1]) (n := 8) (Nat.le_of_ble_eq_true rfl)
  rw [lg_entry_eq]
  generalize (lg_sl ([.ref a0, .int p1]) ++ List.replicate (8 - (lg_sl ([.ref a0, .int p1])).length) Slot.unset).toArray = ls at hl ⊢
  have hl : lv_has ls 8 [(0, .ref a0), (1, .int p1)] := hl
  generalize hH : s.heap = H at hP ⊢
  have hS : va_S A s.heap H [] := hH ▸ hS
  generalize hLo : ([] : List Loc) = locs at hS ⊢
  clear hH hLo
  unfold m_LC_sumOverBlocks at hm
  refine lv_iload_n hx hb d_LC_sumOverBlocks_0 rfl (lv_at hl 1 rfl) ?_
  refine lv_iload_n hx hb d_LC_sumOverBlocks_1 rfl (lv_at hl 1 rfl) ?_
  refine lv_iconst (v := 1) hx hb d_LC_sumOverBlocks_2 (by decide) ?_
  refine lv_isub hx hb d_LC_sumOverBlocks_3 ?_
  refine lv_iand hx hb d_LC_sumOverBlocks_4 ?_
  refine lv_topi (fun x2_1 ex2_1 => ?_)
  have hm := gB_at ex2_1 hm
  refine lv_istore_n (lv' := [(2, .int x2_1), (0, .ref a0), (1, .int p1)]) hx hb d_LC_sumOverBlocks_5 rfl hl (by decide) rfl (fun ls hl => ?_)
  refine lv_iconst (v := 1) hx hb d_LC_sumOverBlocks_6 (by decide) ?_
  refine lv_iload_n hx hb d_LC_sumOverBlocks_7 rfl (lv_at hl 0 rfl) ?_
  refine gx_bit hx hb hml hown htt kt_463 hK hNw hP hD hS hA hl.1 (lv_room (Nat.le_of_ble_eq_true rfl)) (Nat.le_of_ble_eq_true rfl) (Nat.le_of_ble_eq_true rfl) (Nat.zero_le _) (Nat.zero_le _) d_LC_sumOverBlocks_8 (fun H locs hP hD hS => ?_)
  refine lv_ishl hx hb d_LC_sumOverBlocks_11 ?_
  refine lv_topi (fun x3_2 ex3_2 => ?_)
  have hm := gB_at ex3_2 hm
  refine lv_istore_n (lv' := [(3, .int x3_2), (2, .int x2_1), (0, .ref a0), (1, .int p1)]) hx hb d_LC_sumOverBlocks_12 rfl hl (by decide) rfl (fun ls hl => ?_)
  refine lv_lconst (v := 0) hx hb d_LC_sumOverBlocks_13 (by decide) ?_
  refine lv_lstore (lv' := [(4, .long 0), (3, .int x3_2), (2, .int x2_1), (0, .ref a0), (1, .int p1)]) hx hb d_LC_sumOverBlocks_14 hl (by decide) rfl (fun ls hl => ?_)
  refine lv_iconst (v := 0) hx hb d_LC_sumOverBlocks_16 (by decide) ?_
  refine lv_istore (lv' := [(6, .int 0), (4, .long 0), (3, .int x3_2), (2, .int x2_1), (0, .ref a0), (1, .int p1)]) hx hb d_LC_sumOverBlocks_17 hl (by decide) rfl (fun ls hl => ?_)
  refine lv_iconst (v := 0) hx hb d_LC_sumOverBlocks_19 (by decide) ?_
  refine lv_istore (lv' := [(7, .int 0), (6, .int 0), (4, .long 0), (3, .int x3_2), (2, .int x2_1), (0, .ref a0), (1, .int p1)]) hx hb d_LC_sumOverBlocks_20 hl (by decide) rfl (fun ls hl => ?_)
  refine gL_e (P := (fun (z_22 : Int64 × Int32 × Int32) => ∀ (x4_3 : Int64), ∀ (x6_4 : Int32), ∀ (x7_5 : Int32), z_22 = (x4_3, x6_4, x7_5) → ∀ (ls : Array Slot) (H : Heap) (locs : List Loc), lv_has ls 8 [(0, .ref a0), (1, .int p1), (2, .int x2_1), (3, .int x3_2), (4, .long x4_3), (6, .int x6_4), (7, .int x7_5)] → va_P (dC, dI) vwCl (wd_LC_sumOverBlocks cI cJ cG cZ a0 a0_open a0_clash a0_weight a0_common a0_gain a0_sum v0_rest v0_versionSeen v0_restSeen n0_gain w0_gain n0_sum w0_sum) H → va_D A (wd_LC_sumOverBlocks cI cJ cG cZ a0 a0_open a0_clash a0_weight a0_common a0_gain a0_sum v0_rest v0_versionSeen v0_restSeen n0_gain w0_gain n0_sum w0_sum) → va_S A s.heap H locs → W p l e (headSpec us_LC_sumOverBlocks rm_LC_sumOverBlocks).room s m ([.ref a0, .int p1] : List Value).toArray below meth c H locs 0 0 (MQ below (va_Ql (fun (r : Int64) (_ : Unit) => ret = r) (fun _ t => PoS (dC, dI) (tyL cI cJ cG cZ) (wd_LC_sumOverBlocks cI cJ cG cZ a0 a0_open a0_clash a0_weight a0_common a0_gain a0_sum v0_rest v0_versionSeen v0_restSeen n0_gain w0_gain n0_sum w0_sum) A t) A) ([.ref a0, .int p1] : List Value).toArray s 0 0 A) (F0 m 22 ls []))) hm (fun k_22 z_22 ih_22 hm => ?_) _ _ _ rfl ls H locs (lv_sub hl [5, 6, 4, 3, 2, 1, 0] rfl) hP hD hS
  intro x4_3 x6_4 x7_5 hz ls H locs hl hP hD hS
  subst hz
  dsimp only at hm
  refine lv_iload hx hb d_LC_sumOverBlocks_22 (lv_at hl 6 rfl) ?_
  refine lv_iload_n hx hb d_LC_sumOverBlocks_24 rfl (lv_at hl 3 rfl) ?_
  refine lv_icmp_ge (tgt := 65) hx hb d_LC_sumOverBlocks_25 (by decide) (fun c_6 => ?_) (fun c_6 => ?_)
  · have hm := ite_t c_6 hm
    refine lv_lload hx hb d_LC_sumOverBlocks_65 (lv_at hl 4 rfl) ?_
    cases hm
    exact W.lret hx hb hr (fun t ht hW => ⟨⟨_, (), rfl, rfl, by rw [ht]; exact hP, va_K.moved hW.alike hK, hD⟩, hS.F ht⟩) hS.2.2 d_LC_sumOverBlocks_67
  · have hm := ite_f c_6 hm
    refine lv_lload hx hb d_LC_sumOverBlocks_28 (lv_at hl 4 rfl) ?_
    refine lv_aload_n hx hb d_LC_sumOverBlocks_30 rfl (lv_at hl 0 rfl) ?_
    refine va_get (D := (dC, dI)) (ci := 4) (v := .ref a0_gain) (C := R_LC) (T := T_LC) (N := 9) hx hb htt hin_LC hown hK hP 0 rfl rfl 4 (by decide) (htt _ kt_150) (fun _ h9 => h9) rfl d_LC_sumOverBlocks_31 ?_
    refine lv_iload_n hx hb d_LC_sumOverBlocks_34 rfl (lv_at hl 1 rfl) ?_
    refine lv_iload hx hb d_LC_sumOverBlocks_35 (lv_at hl 5 rfl) ?_
    refine lv_ixor hx hb d_LC_sumOverBlocks_37 ?_
    obtain ⟨hi_7, hm⟩ := gC_e hm
    refine va_iald hx hb hK hP 1 0 rfl rfl (inb_vp hi_7) d_LC_sumOverBlocks_38 ?_
    refine lv_i2l hx hb d_LC_sumOverBlocks_39 rfl ?_
    refine lv_aload_n hx hb d_LC_sumOverBlocks_40 rfl (lv_at hl 0 rfl) ?_
    refine va_get (D := (dC, dI)) (ci := 4) (v := .ref a0_sum) (C := R_LC) (T := T_LC) (N := 9) hx hb htt hin_LC hown hK hP 0 rfl rfl 5 (by decide) (htt _ kt_151) (fun _ h9 => h9) rfl d_LC_sumOverBlocks_41 ?_
    refine lv_iload hx hb d_LC_sumOverBlocks_44 (lv_at hl 5 rfl) ?_
    obtain ⟨hi_8, hm⟩ := gC_e hm
    refine va_lald hx hb hK hP 2 1 rfl rfl (inb_vp hi_8) d_LC_sumOverBlocks_46 ?_
    refine lv_lmul hx hb d_LC_sumOverBlocks_47 ?_
    refine lv_ladd hx hb d_LC_sumOverBlocks_48 ?_
    refine lv_topl (fun x4_9 ex4_9 => ?_)
    have hm := gB_at ex4_9 hm
    refine lv_lstore (lv' := [(4, .long x4_9), (0, .ref a0), (1, .int p1), (2, .int x2_1), (3, .int x3_2), (6, .int x6_4), (7, .int x7_5)]) hx hb d_LC_sumOverBlocks_49 hl (by decide) rfl (fun ls hl => ?_)
    refine lv_iload hx hb d_LC_sumOverBlocks_51 (lv_at hl 5 rfl) ?_
    refine lv_iload_n hx hb d_LC_sumOverBlocks_53 rfl (lv_at hl 3 rfl) ?_
    refine lv_isub hx hb d_LC_sumOverBlocks_54 ?_
    refine lv_iload_n hx hb d_LC_sumOverBlocks_55 rfl (lv_at hl 3 rfl) ?_
    refine lv_iand hx hb d_LC_sumOverBlocks_56 ?_
    refine lv_topi (fun x6_10 ex6_10 => ?_)
    have hm := gB_at ex6_10 hm
    refine lv_istore (lv' := [(6, .int x6_10), (4, .long x4_9), (0, .ref a0), (1, .int p1), (2, .int x2_1), (3, .int x3_2), (7, .int x7_5)]) hx hb d_LC_sumOverBlocks_57 hl (by decide) rfl (fun ls hl => ?_)
    obtain ⟨x7_11, ex7_11⟩ : ∃ y : Int32, y = x7_5 + 1 := ⟨_, rfl⟩
    have hm := gB_at ex7_11 hm
    refine lv_iinc (v := x7_11) (lv' := [(7, .int x7_11), (6, .int x6_10), (4, .long x4_9), (0, .ref a0), (1, .int p1), (2, .int x2_1), (3, .int x3_2)]) hx hb d_LC_sumOverBlocks_59 hl (k := 6) rfl (by rw [ex7_11]; rfl) (by decide) rfl (fun ls hl => ?_)
    refine lv_goto (tgt := 22) hx hb d_LC_sumOverBlocks_62 (by decide) ?_
    exact ih_22 _ hm _ _ _ rfl ls H locs (lv_sub hl [3, 4, 5, 6, 2, 1, 0] rfl) hP hD hS
theorem d_LC_countPart_0 : decode prog_3_method_11_code 0 = .ok (.aload_n 0, 1) := by decide +kernel
theorem d_LC_countPart_1 : decode prog_3_method_11_code 1 = .ok (.iload_n 1, 1) := by decide +kernel
theorem d_LC_countPart_2 : decode prog_3_method_11_code 2 = .ok (.invokevirtual 113, 3) := by decide +kernel
theorem d_LC_countPart_5 : decode prog_3_method_11_code 5 = .ok (.aload_n 0, 1) := by decide +kernel
theorem d_LC_countPart_6 : decode prog_3_method_11_code 6 = .ok (.getfield 27, 3) := by decide +kernel
theorem d_LC_countPart_9 : decode prog_3_method_11_code 9 = .ok (.iconst 0, 1) := by decide +kernel
theorem d_LC_countPart_10 : decode prog_3_method_11_code 10 = .ok (.lconst 1, 1) := by decide +kernel
theorem d_LC_countPart_11 : decode prog_3_method_11_code 11 = .ok (.lastore, 1) := by decide +kernel
theorem d_LC_countPart_12 : decode prog_3_method_11_code 12 = .ok (.iload_n 1, 1) := by decide +kernel
theorem d_LC_countPart_13 : decode prog_3_method_11_code 13 = .ok (.iload_n 1, 1) := by decide +kernel
theorem d_LC_countPart_14 : decode prog_3_method_11_code 14 = .ok (.iconst 1, 1) := by decide +kernel
theorem d_LC_countPart_15 : decode prog_3_method_11_code 15 = .ok (.isub, 1) := by decide +kernel
theorem d_LC_countPart_16 : decode prog_3_method_11_code 16 = .ok (.iand, 1) := by decide +kernel
theorem d_LC_countPart_17 : decode prog_3_method_11_code 17 = .ok (.istore_n 2, 1) := by decide +kernel
theorem d_LC_countPart_18 : decode prog_3_method_11_code 18 = .ok (.iconst 1, 1) := by decide +kernel
theorem d_LC_countPart_19 : decode prog_3_method_11_code 19 = .ok (.iload_n 2, 1) := by decide +kernel
theorem d_LC_countPart_20 : decode prog_3_method_11_code 20 = .ok (.invokestatic 82, 3) := by decide +kernel
theorem d_LC_countPart_23 : decode prog_3_method_11_code 23 = .ok (.ishl, 1) := by decide +kernel
theorem d_LC_countPart_24 : decode prog_3_method_11_code 24 = .ok (.istore_n 3, 1) := by decide +kernel
theorem d_LC_countPart_25 : decode prog_3_method_11_code 25 = .ok (.iconst 0, 1) := by decide +kernel
theorem d_LC_countPart_26 : decode prog_3_method_11_code 26 = .ok (.istore 4, 2) := by decide +kernel
theorem d_LC_countPart_28 : decode prog_3_method_11_code 28 = .ok (.iconst 1, 1) := by decide +kernel
theorem d_LC_countPart_29 : decode prog_3_method_11_code 29 = .ok (.istore 5, 2) := by decide +kernel
theorem d_LC_countPart_31 : decode prog_3_method_11_code 31 = .ok (.iload 5, 2) := by decide +kernel
theorem d_LC_countPart_33 : decode prog_3_method_11_code 33 = .ok (.iload_n 3, 1) := by decide +kernel
theorem d_LC_countPart_34 : decode prog_3_method_11_code 34 = .ok (.if_icmp .ge 30, 3) := by decide +kernel
theorem d_LC_countPart_37 : decode prog_3_method_11_code 37 = .ok (.iload 4, 2) := by decide +kernel
theorem d_LC_countPart_39 : decode prog_3_method_11_code 39 = .ok (.iload_n 2, 1) := by decide +kernel
theorem d_LC_countPart_40 : decode prog_3_method_11_code 40 = .ok (.isub, 1) := by decide +kernel
theorem d_LC_countPart_41 : decode prog_3_method_11_code 41 = .ok (.iload_n 2, 1) := by decide +kernel
theorem d_LC_countPart_42 : decode prog_3_method_11_code 42 = .ok (.iand, 1) := by decide +kernel
theorem d_LC_countPart_43 : decode prog_3_method_11_code 43 = .ok (.istore 4, 2) := by decide +kernel
theorem d_LC_countPart_45 : decode prog_3_method_11_code 45 = .ok (.aload_n 0, 1) := by decide +kernel
theorem d_LC_countPart_46 : decode prog_3_method_11_code 46 = .ok (.getfield 27, 3) := by decide +kernel
theorem d_LC_countPart_49 : decode prog_3_method_11_code 49 = .ok (.iload 4, 2) := by decide +kernel
theorem d_LC_countPart_51 : decode prog_3_method_11_code 51 = .ok (.aload_n 0, 1) := by decide +kernel
theorem d_LC_countPart_52 : decode prog_3_method_11_code 52 = .ok (.iload 4, 2) := by decide +kernel
theorem d_LC_countPart_54 : decode prog_3_method_11_code 54 = .ok (.invokevirtual 116, 3) := by decide +kernel
theorem d_LC_countPart_57 : decode prog_3_method_11_code 57 = .ok (.lastore, 1) := by decide +kernel
theorem d_LC_countPart_58 : decode prog_3_method_11_code 58 = .ok (.iinc 5 1, 3) := by decide +kernel
theorem d_LC_countPart_61 : decode prog_3_method_11_code 61 = .ok (.goto (-30), 3) := by decide +kernel
theorem d_LC_countPart_64 : decode prog_3_method_11_code 64 = .ok (.aload_n 0, 1) := by decide +kernel
theorem d_LC_countPart_65 : decode prog_3_method_11_code 65 = .ok (.iload_n 1, 1) := by decide +kernel
theorem d_LC_countPart_66 : decode prog_3_method_11_code 66 = .ok (.invokevirtual 116, 3) := by decide +kernel
theorem d_LC_countPart_69 : decode prog_3_method_11_code 69 = .ok (.lreturn, 1) := by decide +kernel
abbrev wd_LC_countPart (cI cJ cG cZ : ClassId) (a0 a0_open a0_clash a0_weight a0_common a0_gain a0_sum : Nat) (v0_rest : Int32) (v0_versionSeen : Int32) (v0_restSeen : Int32) (w0_open : Nat → Int32) (n0_weight : Nat) (w0_weight : Nat → Int32) (n0_common : Nat) (w0_common : Nat → Int32) (n0_gain : Nat) (w0_gain : Nat → Int32) (n0_sum : Nat) (w0_sum : Nat → Int64) : va_W := [(a0, .inr (4, [.ref a0_open, .ref a0_clash, .ref a0_weight, .ref a0_common, .ref a0_gain, .ref a0_sum, .int v0_rest, .int v0_versionSeen, .int v0_restSeen])), (a0_open, .inl (cI, 12, .inl w0_open)), (a0_weight, .inl (cI, n0_weight, .inl w0_weight)), (a0_common, .inl (cI, n0_common, .inl w0_common)), (a0_gain, .inl (cI, n0_gain, .inl w0_gain)), (a0_sum, .inl (cJ, n0_sum, .inr (.inl w0_sum)))]
abbrev us_LC_countPart : List Cond := .code y_LC_countPart prog_3_method_11_code 6 (some .long) :: gtbl
abbrev rm_LC_countPart : Room := { frames := 3, cells := 0, slots := 0, locals := 64 }
def m_LC_countPart (F : Nat) (v0_rest : Int32) (v0_versionSeen : Int32) (v0_restSeen : Int32) (w0_open : Nat → Int32) (n0_weight : Nat) (w0_weight : Nat → Int32) (n0_common : Nat) (w0_common : Nat → Int32) (n0_gain : Nat) (w0_gain : Nat → Int32) (n0_sum : Nat) (w0_sum : Nat → Int64) (p1 : Int32) : Option (Int64 × (Nat → Int32) × (Nat → Int32) × (Nat → Int64)) :=
  gM (m_LC_findGains F v0_rest v0_versionSeen v0_restSeen w0_open n0_weight w0_weight n0_common w0_common n0_gain w0_gain p1) (fun (z_4 : (Nat → Int32) × (Nat → Int32)) => match z_4 with
  | (w0_common_1, w0_gain_2) =>
  gC (inb 0 n0_sum) (
  gB (p1 &&& (p1 - 1)) (fun x2_6 =>
  gB ((1 : Int32) <<< ((bitc x2_6) &&& 31)) (fun x3_7 =>
  gL (fun (k_31 : (Int32 × Int32 × (Nat → Int64)) → Option (Int64 × (Nat → Int32) × (Nat → Int32) × (Nat → Int64))) (z_31 : Int32 × Int32 × (Nat → Int64)) => match z_31 with
  | (x4_8, x5_9, w0_sum_10) =>
  if x3_7 ≤ x5_9 then (
    gM (m_LC_sumOverBlocks F v0_rest v0_versionSeen v0_restSeen n0_gain w0_gain_2 n0_sum w0_sum_10 p1) (fun q_12 =>
    some (q_12, w0_common_1, w0_gain_2, w0_sum_10))
  ) else (
    gB ((x4_8 - x2_6) &&& x2_6) (fun x4_15 =>
    gM (m_LC_sumOverBlocks F v0_rest v0_versionSeen v0_restSeen n0_gain w0_gain_2 n0_sum w0_sum_10 x4_15) (fun q_16 =>
    gC (inb x4_15 n0_sum) (
    gB (x5_9 + 1) (fun x5_20 =>
    k_31 (x4_15, x5_20, vp_updL w0_sum_10 x4_15.toNatClampNeg q_16)))))
  )
  ) F (0, 1, vp_updL w0_sum (0 : Int32).toNatClampNeg 1)))))
set_option maxHeartbeats 4000000 in
set_option maxRecDepth 100000 in
theorem c_LC_countPart (l : Launch) (dC : Nat → ClassId) (dI : Nat → Nat → Nat) (cI cJ cG cZ : ClassId) (a0 a0_open a0_clash a0_weight a0_common a0_gain a0_sum : Nat) (sz : Nat) (F : Nat) (v0_rest : Int32) (v0_versionSeen : Int32) (v0_restSeen : Int32) (w0_open : Nat → Int32) (n0_weight : Nat) (w0_weight : Nat → Int32) (n0_common : Nat) (w0_common : Nat → Int32) (n0_gain : Nat) (w0_gain : Nat → Int32) (n0_sum : Nat) (w0_sum : Nat → Int64) (p1 : Int32) (ret : Int64) (o_w0_common : Nat → Int32) (o_w0_gain : Nat → Int32) (o_w0_sum : Nat → Int64) (hm : m_LC_countPart F v0_rest v0_versionSeen v0_restSeen w0_open n0_weight w0_weight n0_common w0_common n0_gain w0_gain n0_sum w0_sum p1 = some (ret, o_w0_common, o_w0_gain, o_w0_sum)) : Met l y_LC_countPart us_LC_countPart rm_LC_countPart (PcS (dC, dI) (tyL cI cJ cG cZ) [.ref a0, .int p1] sz (wd_LC_countPart cI cJ cG cZ a0 a0_open a0_clash a0_weight a0_common a0_gain a0_sum v0_rest v0_versionSeen v0_restSeen w0_open n0_weight w0_weight n0_common w0_common n0_gain w0_gain n0_sum w0_sum)) (va_Ql (fun (r : Int64) (_ : Unit) => ret = r) (fun _ t => PoS (dC, dI) (tyL cI cJ cG cZ) (wd_LC_countPart cI cJ cG cZ a0 a0_open a0_clash a0_weight a0_common a0_gain a0_sum v0_rest v0_versionSeen v0_restSeen w0_open n0_weight w0_weight n0_common o_w0_common n0_gain o_w0_gain n0_sum o_w0_sum) (va_A (wd_LC_countPart cI cJ cG cZ a0 a0_open a0_clash a0_weight a0_common a0_gain a0_sum v0_rest v0_versionSeen v0_restSeen w0_open n0_weight w0_weight n0_common w0_common n0_gain w0_gain n0_sum w0_sum) sz) t) (va_A (wd_LC_countPart cI cJ cG cZ a0 a0_open a0_clash a0_weight a0_common a0_gain a0_sum v0_rest v0_versionSeen v0_restSeen w0_open n0_weight w0_weight n0_common w0_common n0_gain w0_gain n0_sum w0_sum) sz)) 0 0 (va_A (wd_LC_countPart cI cJ cG cZ a0 a0_open a0_clash a0_weight a0_common a0_gain a0_sum v0_rest v0_versionSeen v0_restSeen w0_open n0_weight w0_weight n0_common w0_common n0_gain w0_gain n0_sum w0_sum) sz) := by
  refine Met.ofW (cc := prog_3_method_11_code) (maxL := 6) (ret := (some .long)) (by decide) rfl ?_
  intro p e s m args below meth c s₁ B hml hv
  obtain ⟨rfl, hsz, hP, hK, hD0, hNw⟩ := hv
  have hx := B.exec
  have hb := B.bytes
  have hr := B.returns
  have htt : ∀ w ∈ gtbl, w.before _ s = true := fun w h => atoms_spec (ws := us_LC_countPart) B.pre w (List.mem_cons_of_mem _ h)
  have hown : s.vm.findClass R_LC = some m.cls := findClass_of_methodNamed B.named
  have hlocks := B.notSynchronized
  subst hsz
  have hD := hD0.self (sz := s.heap.size)
  generalize hAe : va_A (wd_LC_countPart cI cJ cG cZ a0 a0_open a0_clash a0_weight a0_common a0_gain a0_sum v0_rest v0_versionSeen v0_restSeen w0_open n0_weight w0_weight n0_common w0_common n0_gain w0_gain n0_sum w0_sum) s.heap.size = A at hD ⊢
  have hA : ∀ q : Nat, s.heap.size ≤ q → A q := fun q h => by rw [← hAe]; exact Or.inr h
  clear hAe hD0
  have hS : va_S A s.heap s.heap [] := va_S.rf
  have hl := lv_entry ([.ref a0, .int p1]) (n := 6) (Nat.le_of_ble_eq_true rfl)
  rw [lg_entry_eq]
  generalize (lg_sl ([.ref a0, .int p1]) ++ List.replicate (6 - (lg_sl ([.ref a0, .int p1])).length) Slot.unset).toArray = ls at hl ⊢
  have hl : lv_has ls 6 [(0, .ref a0), (1, .int p1)] := hl
  generalize hH : s.heap = H at hP ⊢
  have hS : va_S A s.heap H [] := hH ▸ hS
  generalize hLo : ([] : List Loc) = locs at hS ⊢
  clear hH hLo
  unfold m_LC_countPart at hm
  refine lv_aload_n hx hb d_LC_countPart_0 rfl (lv_at hl 0 rfl) ?_
  refine lv_iload_n hx hb d_LC_countPart_1 rfl (lv_at hl 1 rfl) ?_
  obtain ⟨⟨w0_common_1, w0_gain_2⟩, hc_3, hm⟩ := gM_e hm
  dsimp only at hm
  have hPc : va_P (dC, dI) vwCl (wd_LC_findGains cI cJ cG cZ a0 a0_open a0_clash a0_weight a0_common a0_gain a0_sum v0_rest v0_versionSeen v0_restSeen w0_open n0_weight w0_weight n0_common w0_common n0_gain w0_gain) H := hP.sub [0, 1, 2, 3, 4] rfl
  have hDc : va_D A (wd_LC_findGains cI cJ cG cZ a0 a0_open a0_clash a0_weight a0_common a0_gain a0_sum v0_rest v0_versionSeen v0_restSeen w0_open n0_weight w0_weight n0_common w0_common n0_gain w0_gain) := hD.sub [0, 1, 2, 3, 4] (by decide) rfl
  have hFc : ∀ q, va_A (wd_LC_findGains cI cJ cG cZ a0 a0_open a0_clash a0_weight a0_common a0_gain a0_sum v0_rest v0_versionSeen v0_restSeen w0_open n0_weight w0_weight n0_common w0_common n0_gain w0_gain) H.size q → A q := va_free hD hS hA [0, 1, 2, 3, 4] rfl
  refine va_callv (va_runV (As := [.int p1]) (rest := []) ⟨hx, hb, hml, hown, htt⟩ (c_LC_findGains l dC dI cI cJ cG cZ a0 a0_open a0_clash a0_weight a0_common a0_gain a0_sum H.size F v0_rest v0_versionSeen v0_restSeen w0_open n0_weight w0_weight n0_common w0_common n0_gain w0_gain p1 w0_common_1 w0_gain_2 hc_3) (cwV 1 htt (gdV kt_505 kt_507 kp_29 kt_5 kt_508) rfl rfl rfl (by decide +kernel) ⟨(Nat.le_of_ble_eq_true rfl), (Nat.le_of_ble_eq_true rfl)⟩) ⟨PcS_blind, va_recv hK hPc (ci := 4) (q0 := 0) rfl rfl, PcS_in hPc hK hDc hNw⟩ rfl rfl hl.1 rfl (lv_room (Nat.le_of_ble_eq_true rfl)) d_LC_countPart_2 ⟨Nat.zero_le _, Nat.zero_le _⟩) hS (fun q _ h => hFc q h) hFc (fun u t H1 locs ht hvm hw hB hz1 hk1 hS => ?_)
  obtain ⟨hP1, hK1, hD1⟩ := hB
  rw [ht] at hP1
  obtain ⟨hP, hD⟩ := va_join (wr := [(a0_sum, .inl (cJ, n0_sum, .inr (.inl w0_sum)))]) (w1 := (wd_LC_findGains cI cJ cG cZ a0 a0_open a0_clash a0_weight a0_common a0_gain a0_sum v0_rest v0_versionSeen v0_restSeen w0_open n0_weight w0_weight n0_common w0_common_1 n0_gain w0_gain_2)) hP hD [0, 1, 2, 3, 4] [5] rfl rfl (by decide) (by decide) hk1 hFc hP1 hD1
  have hP : va_P (dC, dI) vwCl (wd_LC_countPart cI cJ cG cZ a0 a0_open a0_clash a0_weight a0_common a0_gain a0_sum v0_rest v0_versionSeen v0_restSeen w0_open n0_weight w0_weight n0_common w0_common_1 n0_gain w0_gain_2 n0_sum w0_sum) H1 := hP.sub [1, 2, 3, 4, 5, 0] rfl
  have hD : va_D A (wd_LC_countPart cI cJ cG cZ a0 a0_open a0_clash a0_weight a0_common a0_gain a0_sum v0_rest v0_versionSeen v0_restSeen w0_open n0_weight w0_weight n0_common w0_common_1 n0_gain w0_gain_2 n0_sum w0_sum) := hD.sub [1, 2, 3, 4, 5, 0] (by decide) rfl
  clear hP1 hK1 hD1 hk1 hPc hDc hFc ht hvm hz1
  generalize H1 = H at hP hS ⊢
  refine lv_aload_n hx hb d_LC_countPart_5 rfl (lv_at hl 0 rfl) ?_
  refine va_get (D := (dC, dI)) (ci := 4) (v := .ref a0_sum) (C := R_LC) (T := T_LC) (N := 9) hx hb htt hin_LC hown hK hP 0 rfl rfl 5 (by decide) (htt _ kt_151) (fun _ h9 => h9) rfl d_LC_countPart_6 ?_
  refine lv_iconst (v := 0) hx hb d_LC_countPart_9 (by decide) ?_
  refine lv_lconst (v := 1) hx hb d_LC_countPart_10 (by decide) ?_
  obtain ⟨hi_5, hm⟩ := gC_e hm
  refine va_last hx hb hK hP hD hS 5 1 rfl rfl (inb_vp hi_5) d_LC_countPart_11 (fun H locs hP hD hS => ?_)
  have hP : va_P (dC, dI) vwCl (wd_LC_countPart cI cJ cG cZ a0 a0_open a0_clash a0_weight a0_common a0_gain a0_sum v0_rest v0_versionSeen v0_restSeen w0_open n0_weight w0_weight n0_common w0_common_1 n0_gain w0_gain_2 n0_sum (vp_updL w0_sum (0 : Int32).toNatClampNeg 1)) H := hP
  have hD : va_D A (wd_LC_countPart cI cJ cG cZ a0 a0_open a0_clash a0_weight a0_common a0_gain a0_sum v0_rest v0_versionSeen v0_restSeen w0_open n0_weight w0_weight n0_common w0_common_1 n0_gain w0_gain_2 n0_sum (vp_updL w0_sum (0 : Int32).toNatClampNeg 1)) := hD
  refine lv_iload_n hx hb d_LC_countPart_12 rfl (lv_at hl 1 rfl) ?_
  refine lv_iload_n hx hb d_LC_countPart_13 rfl (lv_at hl 1 rfl) ?_
  refine lv_iconst (v := 1) hx hb d_LC_countPart_14 (by decide) ?_
  refine lv_isub hx hb d_LC_countPart_15 ?_
  refine lv_iand hx hb d_LC_countPart_16 ?_
  refine lv_topi (fun x2_6 ex2_6 => ?_)
  have hm := gB_at ex2_6 hm
  refine lv_istore_n (lv' := [(2, .int x2_6), (0, .ref a0), (1, .int p1)]) hx hb d_LC_countPart_17 rfl hl (by decide) rfl (fun ls hl => ?_)
  refine lv_iconst (v := 1) hx hb d_LC_countPart_18 (by decide) ?_
  refine lv_iload_n hx hb d_LC_countPart_19 rfl (lv_at hl 0 rfl) ?_
  refine gx_bit hx hb hml hown htt kt_463 hK hNw hP hD hS hA hl.1 (lv_room (Nat.le_of_ble_eq_true rfl)) (Nat.le_of_ble_eq_true rfl) (Nat.le_of_ble_eq_true rfl) (Nat.zero_le _) (Nat.zero_le _) d_LC_countPart_20 (fun H locs hP hD hS => ?_)
  refine lv_ishl hx hb d_LC_countPart_23 ?_
  refine lv_topi (fun x3_7 ex3_7 => ?_)
  have hm := gB_at ex3_7 hm
  refine lv_istore_n (lv' := [(3, .int x3_7), (2, .int x2_6), (0, .ref a0), (1, .int p1)]) hx hb d_LC_countPart_24 rfl hl (by decide) rfl (fun ls hl => ?_)
  refine lv_iconst (v := 0) hx hb d_LC_countPart_25 (by decide) ?_
  refine lv_istore (lv' := [(4, .int 0), (3, .int x3_7), (2, .int x2_6), (0, .ref a0), (1, .int p1)]) hx hb d_LC_countPart_26 hl (by decide) rfl (fun ls hl => ?_)
  refine lv_iconst (v := 1) hx hb d_LC_countPart_28 (by decide) ?_
  refine lv_istore (lv' := [(5, .int 1), (4, .int 0), (3, .int x3_7), (2, .int x2_6), (0, .ref a0), (1, .int p1)]) hx hb d_LC_countPart_29 hl (by decide) rfl (fun ls hl => ?_)
  refine gL_e (P := (fun (z_31 : Int32 × Int32 × (Nat → Int64)) => ∀ (x4_8 : Int32), ∀ (x5_9 : Int32), ∀ (w0_sum_10 : Nat → Int64), z_31 = (x4_8, x5_9, w0_sum_10) → ∀ (ls : Array Slot) (H : Heap) (locs : List Loc), lv_has ls 6 [(0, .ref a0), (1, .int p1), (2, .int x2_6), (3, .int x3_7), (4, .int x4_8), (5, .int x5_9)] → va_P (dC, dI) vwCl (wd_LC_countPart cI cJ cG cZ a0 a0_open a0_clash a0_weight a0_common a0_gain a0_sum v0_rest v0_versionSeen v0_restSeen w0_open n0_weight w0_weight n0_common w0_common_1 n0_gain w0_gain_2 n0_sum w0_sum_10) H → va_D A (wd_LC_countPart cI cJ cG cZ a0 a0_open a0_clash a0_weight a0_common a0_gain a0_sum v0_rest v0_versionSeen v0_restSeen w0_open n0_weight w0_weight n0_common w0_common_1 n0_gain w0_gain_2 n0_sum w0_sum_10) → va_S A s.heap H locs → W p l e (headSpec us_LC_countPart rm_LC_countPart).room s m ([.ref a0, .int p1] : List Value).toArray below meth c H locs 0 0 (MQ below (va_Ql (fun (r : Int64) (_ : Unit) => ret = r) (fun _ t => PoS (dC, dI) (tyL cI cJ cG cZ) (wd_LC_countPart cI cJ cG cZ a0 a0_open a0_clash a0_weight a0_common a0_gain a0_sum v0_rest v0_versionSeen v0_restSeen w0_open n0_weight w0_weight n0_common o_w0_common n0_gain o_w0_gain n0_sum o_w0_sum) A t) A) ([.ref a0, .int p1] : List Value).toArray s 0 0 A) (F0 m 31 ls []))) hm (fun k_31 z_31 ih_31 hm => ?_) _ _ _ rfl ls H locs (lv_sub hl [4, 5, 3, 2, 1, 0] rfl) hP hD hS
  intro x4_8 x5_9 w0_sum_10 hz ls H locs hl hP hD hS
  subst hz
  dsimp only at hm
  refine lv_iload hx hb d_LC_countPart_31 (lv_at hl 5 rfl) ?_
  refine lv_iload_n hx hb d_LC_countPart_33 rfl (lv_at hl 3 rfl) ?_
  refine lv_icmp_ge (tgt := 64) hx hb d_LC_countPart_34 (by decide) (fun c_11 => ?_) (fun c_11 => ?_)
  · have hm := ite_t c_11 hm
    refine lv_aload_n hx hb d_LC_countPart_64 rfl (lv_at hl 0 rfl) ?_
    refine lv_iload_n hx hb d_LC_countPart_65 rfl (lv_at hl 1 rfl) ?_
    obtain ⟨q_12, hc_13, hm⟩ := gM_e hm
    have hPc : va_P (dC, dI) vwCl (wd_LC_sumOverBlocks cI cJ cG cZ a0 a0_open a0_clash a0_weight a0_common a0_gain a0_sum v0_rest v0_versionSeen v0_restSeen n0_gain w0_gain_2 n0_sum w0_sum_10) H := hP.sub [0, 4, 5] rfl
    have hDc : va_D A (wd_LC_sumOverBlocks cI cJ cG cZ a0 a0_open a0_clash a0_weight a0_common a0_gain a0_sum v0_rest v0_versionSeen v0_restSeen n0_gain w0_gain_2 n0_sum w0_sum_10) := hD.sub [0, 4, 5] (by decide) rfl
    have hFc : ∀ q, va_A (wd_LC_sumOverBlocks cI cJ cG cZ a0 a0_open a0_clash a0_weight a0_common a0_gain a0_sum v0_rest v0_versionSeen v0_restSeen n0_gain w0_gain_2 n0_sum w0_sum_10) H.size q → A q := va_free hD hS hA [0, 4, 5] rfl
    refine va_calll (va_runV (As := [.int p1]) (rest := []) ⟨hx, hb, hml, hown, htt⟩ (c_LC_sumOverBlocks l dC dI cI cJ cG cZ a0 a0_open a0_clash a0_weight a0_common a0_gain a0_sum H.size F v0_rest v0_versionSeen v0_restSeen n0_gain w0_gain_2 n0_sum w0_sum_10 p1 q_12 hc_13) (cwV 1 htt (gdV kt_509 kt_511 kp_30 kt_5 kt_512) rfl rfl rfl (by decide +kernel) ⟨(Nat.le_of_ble_eq_true rfl), (Nat.le_of_ble_eq_true rfl)⟩) ⟨PcS_blind, va_recv hK hPc (ci := 4) (q0 := 0) rfl rfl, PcS_in hPc hK hDc hNw⟩ rfl rfl hl.1 rfl (lv_room (Nat.le_of_ble_eq_true rfl)) d_LC_countPart_66 ⟨Nat.zero_le _, Nat.zero_le _⟩) hS (fun q _ h => hFc q h) hFc (fun r_14 u t H1 locs ht hvm hw hB hz1 hk1 hS => ?_)
    obtain ⟨hP1, hK1, hD1⟩ := hB
    rw [ht] at hP1
    subst hw
    obtain ⟨hP, hD⟩ := va_join (wr := [(a0_open, .inl (cI, 12, .inl w0_open)), (a0_weight, .inl (cI, n0_weight, .inl w0_weight)), (a0_common, .inl (cI, n0_common, .inl w0_common_1))]) (w1 := (wd_LC_sumOverBlocks cI cJ cG cZ a0 a0_open a0_clash a0_weight a0_common a0_gain a0_sum v0_rest v0_versionSeen v0_restSeen n0_gain w0_gain_2 n0_sum w0_sum_10)) hP hD [0, 4, 5] [1, 2, 3] rfl rfl (by decide) (by decide) hk1 hFc hP1 hD1
    have hP : va_P (dC, dI) vwCl (wd_LC_countPart cI cJ cG cZ a0 a0_open a0_clash a0_weight a0_common a0_gain a0_sum v0_rest v0_versionSeen v0_restSeen w0_open n0_weight w0_weight n0_common w0_common_1 n0_gain w0_gain_2 n0_sum w0_sum_10) H1 := hP.sub [3, 0, 1, 2, 4, 5] rfl
    have hD : va_D A (wd_LC_countPart cI cJ cG cZ a0 a0_open a0_clash a0_weight a0_common a0_gain a0_sum v0_rest v0_versionSeen v0_restSeen w0_open n0_weight w0_weight n0_common w0_common_1 n0_gain w0_gain_2 n0_sum w0_sum_10) := hD.sub [3, 0, 1, 2, 4, 5] (by decide) rfl
    clear hP1 hK1 hD1 hk1 hPc hDc hFc ht hvm hz1
    generalize H1 = H at hP hS ⊢
    cases hm
    exact W.lret hx hb hr (fun t ht hW => ⟨⟨_, (), rfl, rfl, by rw [ht]; exact hP, va_K.moved hW.alike hK, hD⟩, hS.F ht⟩) hS.2.2 d_LC_countPart_69
  · have hm := ite_f c_11 hm
    refine lv_iload hx hb d_LC_countPart_37 (lv_at hl 4 rfl) ?_
    refine lv_iload_n hx hb d_LC_countPart_39 rfl (lv_at hl 2 rfl) ?_
    refine lv_isub hx hb d_LC_countPart_40 ?_
    refine lv_iload_n hx hb d_LC_countPart_41 rfl (lv_at hl 2 rfl) ?_
    refine lv_iand hx hb d_LC_countPart_42 ?_
    refine lv_topi (fun x4_15 ex4_15 => ?_)
    have hm := gB_at ex4_15 hm
    refine lv_istore (lv' := [(4, .int x4_15), (0, .ref a0), (1, .int p1), (2, .int x2_6), (3, .int x3_7), (5, .int x5_9)]) hx hb d_LC_countPart_43 hl (by decide) rfl (fun ls hl => ?_)
    refine lv_aload_n hx hb d_LC_countPart_45 rfl (lv_at hl 1 rfl) ?_
    refine va_get (D := (dC, dI)) (ci := 4) (v := .ref a0_sum) (C := R_LC) (T := T_LC) (N := 9) hx hb htt hin_LC hown hK hP 0 rfl rfl 5 (by decide) (htt _ kt_151) (fun _ h9 => h9) rfl d_LC_countPart_46 ?_
    refine lv_iload hx hb d_LC_countPart_49 (lv_at hl 0 rfl) ?_
    refine lv_aload_n hx hb d_LC_countPart_51 rfl (lv_at hl 1 rfl) ?_
    refine lv_iload hx hb d_LC_countPart_52 (lv_at hl 0 rfl) ?_
    obtain ⟨q_16, hc_17, hm⟩ := gM_e hm
    have hPc : va_P (dC, dI) vwCl (wd_LC_sumOverBlocks cI cJ cG cZ a0 a0_open a0_clash a0_weight a0_common a0_gain a0_sum v0_rest v0_versionSeen v0_restSeen n0_gain w0_gain_2 n0_sum w0_sum_10) H := hP.sub [0, 4, 5] rfl
    have hDc : va_D A (wd_LC_sumOverBlocks cI cJ cG cZ a0 a0_open a0_clash a0_weight a0_common a0_gain a0_sum v0_rest v0_versionSeen v0_restSeen n0_gain w0_gain_2 n0_sum w0_sum_10) := hD.sub [0, 4, 5] (by decide) rfl
    have hFc : ∀ q, va_A (wd_LC_sumOverBlocks cI cJ cG cZ a0 a0_open a0_clash a0_weight a0_common a0_gain a0_sum v0_rest v0_versionSeen v0_restSeen n0_gain w0_gain_2 n0_sum w0_sum_10) H.size q → A q := va_free hD hS hA [0, 4, 5] rfl
    refine va_calll (va_runV (As := [.int x4_15]) (rest := [.int x4_15, .ref a0_sum]) ⟨hx, hb, hml, hown, htt⟩ (c_LC_sumOverBlocks l dC dI cI cJ cG cZ a0 a0_open a0_clash a0_weight a0_common a0_gain a0_sum H.size F v0_rest v0_versionSeen v0_restSeen n0_gain w0_gain_2 n0_sum w0_sum_10 x4_15 q_16 hc_17) (cwV 1 htt (gdV kt_509 kt_511 kp_30 kt_5 kt_512) rfl rfl rfl (by decide +kernel) ⟨(Nat.le_of_ble_eq_true rfl), (Nat.le_of_ble_eq_true rfl)⟩) ⟨PcS_blind, va_recv hK hPc (ci := 4) (q0 := 0) rfl rfl, PcS_in hPc hK hDc hNw⟩ rfl rfl hl.1 rfl (lv_room (Nat.le_of_ble_eq_true rfl)) d_LC_countPart_54 ⟨Nat.zero_le _, Nat.zero_le _⟩) hS (fun q _ h => hFc q h) hFc (fun r_18 u t H1 locs ht hvm hw hB hz1 hk1 hS => ?_)
    obtain ⟨hP1, hK1, hD1⟩ := hB
    rw [ht] at hP1
    subst hw
    obtain ⟨hP, hD⟩ := va_join (wr := [(a0_open, .inl (cI, 12, .inl w0_open)), (a0_weight, .inl (cI, n0_weight, .inl w0_weight)), (a0_common, .inl (cI, n0_common, .inl w0_common_1))]) (w1 := (wd_LC_sumOverBlocks cI cJ cG cZ a0 a0_open a0_clash a0_weight a0_common a0_gain a0_sum v0_rest v0_versionSeen v0_restSeen n0_gain w0_gain_2 n0_sum w0_sum_10)) hP hD [0, 4, 5] [1, 2, 3] rfl rfl (by decide) (by decide) hk1 hFc hP1 hD1
    have hP : va_P (dC, dI) vwCl (wd_LC_countPart cI cJ cG cZ a0 a0_open a0_clash a0_weight a0_common a0_gain a0_sum v0_rest v0_versionSeen v0_restSeen w0_open n0_weight w0_weight n0_common w0_common_1 n0_gain w0_gain_2 n0_sum w0_sum_10) H1 := hP.sub [3, 0, 1, 2, 4, 5] rfl
    have hD : va_D A (wd_LC_countPart cI cJ cG cZ a0 a0_open a0_clash a0_weight a0_common a0_gain a0_sum v0_rest v0_versionSeen v0_restSeen w0_open n0_weight w0_weight n0_common w0_common_1 n0_gain w0_gain_2 n0_sum w0_sum_10) := hD.sub [3, 0, 1, 2, 4, 5] (by decide) rfl
    clear hP1 hK1 hD1 hk1 hPc hDc hFc ht hvm hz1
    generalize H1 = H at hP hS ⊢
    obtain ⟨hi_19, hm⟩ := gC_e hm
    refine va_last hx hb hK hP hD hS 5 1 rfl rfl (inb_vp hi_19) d_LC_countPart_57 (fun H locs hP hD hS => ?_)
    have hP : va_P (dC, dI) vwCl (wd_LC_countPart cI cJ cG cZ a0 a0_open a0_clash a0_weight a0_common a0_gain a0_sum v0_rest v0_versionSeen v0_restSeen w0_open n0_weight w0_weight n0_common w0_common_1 n0_gain w0_gain_2 n0_sum (vp_updL w0_sum_10 x4_15.toNatClampNeg q_16)) H := hP
    have hD : va_D A (wd_LC_countPart cI cJ cG cZ a0 a0_open a0_clash a0_weight a0_common a0_gain a0_sum v0_rest v0_versionSeen v0_restSeen w0_open n0_weight w0_weight n0_common w0_common_1 n0_gain w0_gain_2 n0_sum (vp_updL w0_sum_10 x4_15.toNatClampNeg q_16)) := hD
    obtain ⟨x5_20, ex5_20⟩ : ∃ y : Int32, y = x5_9 + 1 := ⟨_, rfl⟩
    have hm := gB_at ex5_20 hm
    refine lv_iinc (v := x5_20) (lv' := [(5, .int x5_20), (4, .int x4_15), (0, .ref a0), (1, .int p1), (2, .int x2_6), (3, .int x3_7)]) hx hb d_LC_countPart_58 hl (k := 5) rfl (by rw [ex5_20]; rfl) (by decide) rfl (fun ls hl => ?_)
    refine lv_goto (tgt := 31) hx hb d_LC_countPart_61 (by decide) ?_
    exact ih_31 _ hm _ _ _ rfl ls H locs (lv_sub hl [2, 3, 4, 5, 1, 0] rfl) hP hD hS
