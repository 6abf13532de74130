theorem d_TA_lowestLoose_0 : decode prog_8_method_4_code 0 = .ok (.iconst 0, 1) := by decide +kernel
theorem d_TA_lowestLoose_1 : decode prog_8_method_4_code 1 = .ok (.istore_n 2, 1) := by decide +kernel
theorem d_TA_lowestLoose_2 : decode prog_8_method_4_code 2 = .ok (.iload_n 2, 1) := by decide +kernel
theorem d_TA_lowestLoose_3 : decode prog_8_method_4_code 3 = .ok (.aload_n 1, 1) := by decide +kernel
theorem d_TA_lowestLoose_4 : decode prog_8_method_4_code 4 = .ok (.getfield 28, 3) := by decide +kernel
theorem d_TA_lowestLoose_7 : decode prog_8_method_4_code 7 = .ok (.if_icmp .ge 40, 3) := by decide +kernel
theorem d_TA_lowestLoose_10 : decode prog_8_method_4_code 10 = .ok (.aload_n 0, 1) := by decide +kernel
theorem d_TA_lowestLoose_11 : decode prog_8_method_4_code 11 = .ok (.getfield 25, 3) := by decide +kernel
theorem d_TA_lowestLoose_14 : decode prog_8_method_4_code 14 = .ok (.iload_n 2, 1) := by decide +kernel
theorem d_TA_lowestLoose_15 : decode prog_8_method_4_code 15 = .ok (.ishr, 1) := by decide +kernel
theorem d_TA_lowestLoose_16 : decode prog_8_method_4_code 16 = .ok (.iconst 1, 1) := by decide +kernel
theorem d_TA_lowestLoose_17 : decode prog_8_method_4_code 17 = .ok (.iand, 1) := by decide +kernel
theorem d_TA_lowestLoose_18 : decode prog_8_method_4_code 18 = .ok (.ifCond .eq 23, 3) := by decide +kernel
theorem d_TA_lowestLoose_21 : decode prog_8_method_4_code 21 = .ok (.aload_n 1, 1) := by decide +kernel
theorem d_TA_lowestLoose_22 : decode prog_8_method_4_code 22 = .ok (.aload_n 1, 1) := by decide +kernel
theorem d_TA_lowestLoose_23 : decode prog_8_method_4_code 23 = .ok (.getfield 35, 3) := by decide +kernel
theorem d_TA_lowestLoose_26 : decode prog_8_method_4_code 26 = .ok (.iload_n 2, 1) := by decide +kernel
theorem d_TA_lowestLoose_27 : decode prog_8_method_4_code 27 = .ok (.iaload, 1) := by decide +kernel
theorem d_TA_lowestLoose_28 : decode prog_8_method_4_code 28 = .ok (.aload_n 0, 1) := by decide +kernel
theorem d_TA_lowestLoose_29 : decode prog_8_method_4_code 29 = .ok (.getfield 25, 3) := by decide +kernel
theorem d_TA_lowestLoose_32 : decode prog_8_method_4_code 32 = .ok (.iand, 1) := by decide +kernel
theorem d_TA_lowestLoose_33 : decode prog_8_method_4_code 33 = .ok (.invokevirtual 38, 3) := by decide +kernel
theorem d_TA_lowestLoose_36 : decode prog_8_method_4_code 36 = .ok (.ifCond .eq 5, 3) := by decide +kernel
theorem d_TA_lowestLoose_39 : decode prog_8_method_4_code 39 = .ok (.iload_n 2, 1) := by decide +kernel
theorem d_TA_lowestLoose_40 : decode prog_8_method_4_code 40 = .ok (.ireturn, 1) := by decide +kernel
theorem d_TA_lowestLoose_41 : decode prog_8_method_4_code 41 = .ok (.iinc 2 1, 3) := by decide +kernel
theorem d_TA_lowestLoose_44 : decode prog_8_method_4_code 44 = .ok (.goto (-42), 3) := by decide +kernel
theorem d_TA_lowestLoose_47 : decode prog_8_method_4_code 47 = .ok (.iconst (-1), 1) := by decide +kernel
theorem d_TA_lowestLoose_48 : decode prog_8_method_4_code 48 = .ok (.ireturn, 1) := by decide +kernel
abbrev wd_TA_lowestLoose (cI cJ cG cZ : ClassId) (a0 a1 a0_sequence a1_near a1_tail a1_head : Nat) (v0_count : Int32) (v0_remains : Int32) (v1_nodes : Int32) (v1_arcCount : Int32) (v1_version : Int32) (w1_near : Nat → Int32) : va_W := [(a0, .inr (6, [.ref a0_sequence, .int v0_count, .int v0_remains])), (a1, .inr (1, [.ref a1_near, .ref a1_tail, .ref a1_head, .int v1_nodes, .int v1_arcCount, .int v1_version])), (a1_near, .inl (cI, 12, .inl w1_near))]
abbrev us_TA_lowestLoose : List Cond := .code y_TA_lowestLoose prog_8_method_4_code 3 (some .int) :: gtbl
abbrev rm_TA_lowestLoose : Room := { frames := 1, cells := 0, slots := 0, locals := 22 }
def m_TA_lowestLoose (F : Nat) (v0_count : Int32) (v0_remains : Int32) (v1_nodes : Int32) (v1_arcCount : Int32) (v1_version : Int32) (w1_near : Nat → Int32) : Option (Int32) :=
  gL (fun (k_2 : Int32 → Option (Int32)) (x2_1 : Int32) =>
  if v1_nodes ≤ x2_1 then (
    some (-1)
  ) else (
    if ((v0_remains >>> (x2_1 &&& 31)) &&& 1) = 0 then (
      gB (x2_1 + 1) (fun x2_4 =>
      k_2 x2_4)
    ) else (
      gC (inb x2_1 12) (
      gM (m_Net_allNear F v1_nodes v1_arcCount v1_version w1_near ((w1_near x2_1.toNatClampNeg) &&& v0_remains)) (fun q_6 =>
      if q_6 = 0 then (
        gB (x2_1 + 1) (fun x2_11 =>
        k_2 x2_11)
      ) else (
        some x2_1
      )))
    )
  )
  ) F 0
set_option maxHeartbeats 4000000 in
set_option maxRecDepth 100000 in
theorem c_TA_lowestLoose (l : Launch) (dC : Nat → ClassId) (dI : Nat → Nat → Nat) (cI cJ cG cZ : ClassId) (a0 a1 a0_sequence a1_near a1_tail a1_head : Nat) (sz : Nat) (F : Nat) (v0_count : Int32) (v0_remains : Int32) (v1_nodes : Int32) (v1_arcCount : Int32) (v1_version : Int32) (w1_near : Nat → Int32) (ret : Int32) (hm : m_TA_lowestLoose F v0_count v0_remains v1_nodes v1_arcCount v1_version w1_near = some ret) : Met l y_TA_lowestLoose us_TA_lowestLoose rm_TA_lowestLoose (PcS (dC, dI) (tyL cI cJ cG cZ) [.ref a0, .ref a1] sz (wd_TA_lowestLoose cI cJ cG cZ a0 a1 a0_sequence a1_near a1_tail a1_head v0_count v0_remains v1_nodes v1_arcCount v1_version w1_near)) (va_Qi (fun (r : Int32) (_ : Unit) => ret = r) (fun _ t => PoS (dC, dI) (tyL cI cJ cG cZ) (wd_TA_lowestLoose cI cJ cG cZ a0 a1 a0_sequence a1_near a1_tail a1_head v0_count v0_remains v1_nodes v1_arcCount v1_version w1_near) (va_A (wd_TA_lowestLoose cI cJ cG cZ a0 a1 a0_sequence a1_near a1_tail a1_head v0_count v0_remains v1_nodes v1_arcCount v1_version w1_near) sz) t) (va_A (wd_TA_lowestLoose cI cJ cG cZ a0 a1 a0_sequence a1_near a1_tail a1_head v0_count v0_remains v1_nodes v1_arcCount v1_version w1_near) sz)) 0 0 (va_A (wd_TA_lowestLoose cI cJ cG cZ a0 a1 a0_sequence a1_near a1_tail a1_head v0_count v0_remains v1_nodes v1_arcCount v1_version w1_near) sz) := by
  refine Met.ofW (cc := prog_8_method_4_code) (maxL := 3) (ret := (some .int)) (by decide) rfl ?_
  intro p e s m args below meth c s₁ B hml hv
  obtain ⟨rfl, hsz, hP, hK, hD0, hNw⟩ := hv
  have hx := B.exec
  have hb := B.bytes
  have hr := B.returns
  have htt : ∀ w ∈ gtbl, w.before _ s = true := fun w h => atoms_spec (ws := us_TA_lowestLoose) B.pre w (List.mem_cons_of_mem _ h)
  have hown : s.vm.findClass R_TA = some m.cls := findClass_of_methodNamed B.named
  have hlocks := B.notSynchronized
  subst hsz
  have hD := hD0.self (sz := s.heap.size)
  generalize hAe : va_A (wd_TA_lowestLoose cI cJ cG cZ a0 a1 a0_sequence a1_near a1_tail a1_head v0_count v0_remains v1_nodes v1_arcCount v1_version w1_near) s.heap.size = A at hD ⊢
  have hA : ∀ q : Nat, s.heap.size ≤ q → A q := fun q h => by rw [← hAe]; exact Or.inr h
  clear hAe hD0
  have hS : va_S A s.heap s.heap [] := va_S.rf
  have hl := lv_entry ([.ref a0, .ref a1]) (n := 3) (Nat.le_of_ble_eq_true rfl)
  rw [lg_entry_eq]
  generalize (lg_sl ([.ref a0, .ref a1]) ++ List.replicate (3 - (lg_sl ([.ref a0, .ref a1])).length) Slot.unset).toArray = ls at hl ⊢
  have hl : lv_has ls 3 [(0, .ref a0), (1, .ref a1)] := hl
  generalize hH : s.heap = H at hP ⊢
  have hS : va_S A s.heap H [] := hH ▸ hS
  generalize hLo : ([] : List Loc) = locs at hS ⊢
  clear hH hLo
  unfold m_TA_lowestLoose at hm
  refine lv_iconst (v := 0) hx hb d_TA_lowestLoose_0 (by decide) ?_
  refine lv_istore_n (lv' := [(2, .int 0), (0, .ref a0), (1, .ref a1)]) hx hb d_TA_lowestLoose_1 rfl hl (by decide) rfl (fun ls hl => ?_)
  refine gL_e (P := (fun (z_2 : Int32) => ∀ (x2_1 : Int32), x2_1 = z_2 → ∀ (ls : Array Slot) (H : Heap) (locs : List Loc), lv_has ls 3 [(0, .ref a0), (1, .ref a1), (2, .int x2_1)] → va_P (dC, dI) vwCl (wd_TA_lowestLoose cI cJ cG cZ a0 a1 a0_sequence a1_near a1_tail a1_head v0_count v0_remains v1_nodes v1_arcCount v1_version w1_near) H → va_D A (wd_TA_lowestLoose cI cJ cG cZ a0 a1 a0_sequence a1_near a1_tail a1_head v0_count v0_remains v1_nodes v1_arcCount v1_version w1_near) → va_S A s.heap H locs → W p l e (headSpec us_TA_lowestLoose rm_TA_lowestLoose).room s m ([.ref a0, .ref a1] : List Value).toArray below meth c H locs 0 0 (MQ below (va_Qi (fun (r : Int32) (_ : Unit) => ret = r) (fun _ t => PoS (dC, dI) (tyL cI cJ cG cZ) (wd_TA_lowestLoose cI cJ cG cZ a0 a1 a0_sequence a1_near a1_tail a1_head v0_count v0_remains v1_nodes v1_arcCount v1_version w1_near) A t) A) ([.ref a0, .ref a1] : List Value).toArray s 0 0 A) (F0 m 2 ls []))) hm (fun k_2 z_2 ih_2 hm => ?_) _ rfl ls H locs (lv_sub hl [1, 2, 0] rfl) hP hD hS
  intro x2_1 hz ls H locs hl hP hD hS
  subst hz
  refine lv_iload_n hx hb d_TA_lowestLoose_2 rfl (lv_at hl 2 rfl) ?_
  refine lv_aload_n hx hb d_TA_lowestLoose_3 rfl (lv_at hl 1 rfl) ?_
  refine va_get (D := (dC, dI)) (ci := 1) (v := .int v1_nodes) (C := R_Net) (T := T_Net) (N := 6) hx hb htt hin_Net hown hK hP 1 rfl rfl 3 (by decide) (htt _ kt_51) (fun _ h9 => h9) rfl d_TA_lowestLoose_4 ?_
  refine lv_icmp_ge (tgt := 47) hx hb d_TA_lowestLoose_7 (by decide) (fun c_2 => ?_) (fun c_2 => ?_)
  · have hm := ite_t c_2 hm
    refine lv_iconst (v := (-1)) hx hb d_TA_lowestLoose_47 (by decide) ?_
    cases hm
    exact W.iret hx hb hr (fun t ht hW => ⟨⟨_, (), rfl, rfl, by rw [ht]; exact hP, va_K.moved hW.alike hK, hD⟩, hS.F ht⟩) hS.2.2 d_TA_lowestLoose_48
  · have hm := ite_f c_2 hm
    refine lv_aload_n hx hb d_TA_lowestLoose_10 rfl (lv_at hl 0 rfl) ?_
    refine va_get (D := (dC, dI)) (ci := 6) (v := .int v0_remains) (C := R_TA) (T := T_TA) (N := 3) hx hb htt hin_TA hown hK hP 0 rfl rfl 2 (by decide) (htt _ kt_197) (fun _ h9 => h9) rfl d_TA_lowestLoose_11 ?_
    refine lv_iload_n hx hb d_TA_lowestLoose_14 rfl (lv_at hl 2 rfl) ?_
    refine lv_ishr hx hb d_TA_lowestLoose_15 ?_
    refine lv_iconst (v := 1) hx hb d_TA_lowestLoose_16 (by decide) ?_
    refine lv_iand hx hb d_TA_lowestLoose_17 ?_
    refine lv_if_eq (tgt := 41) hx hb d_TA_lowestLoose_18 (by decide) (fun c_3 => ?_) (fun c_3 => ?_)
    · have hm := ite_t c_3 hm
      obtain ⟨x2_4, ex2_4⟩ : ∃ y : Int32, y = x2_1 + 1 := ⟨_, rfl⟩
      have hm := gB_at ex2_4 hm
      refine lv_iinc (v := x2_4) (lv' := [(2, .int x2_4), (0, .ref a0), (1, .ref a1)]) hx hb d_TA_lowestLoose_41 hl (k := 2) rfl (by rw [ex2_4]; rfl) (by decide) rfl (fun ls hl => ?_)
      refine lv_goto (tgt := 2) hx hb d_TA_lowestLoose_44 (by decide) ?_
      exact ih_2 _ hm _ rfl ls H locs (lv_sub hl [1, 2, 0] rfl) hP hD hS
    · have hm := ite_f c_3 hm
      refine lv_aload_n hx hb d_TA_lowestLoose_21 rfl (lv_at hl 1 rfl) ?_
      refine lv_aload_n hx hb d_TA_lowestLoose_22 rfl (lv_at hl 1 rfl) ?_
      refine va_get (D := (dC, dI)) (ci := 1) (v := .ref a1_near) (C := R_Net) (T := T_Net) (N := 6) hx hb htt hin_Net hown hK hP 1 rfl rfl 0 (by decide) (htt _ kt_35) (fun _ h9 => h9) rfl d_TA_lowestLoose_23 ?_
      refine lv_iload_n hx hb d_TA_lowestLoose_26 rfl (lv_at hl 2 rfl) ?_
      obtain ⟨hi_5, hm⟩ := gC_e hm
      refine va_iald hx hb hK hP 2 0 rfl rfl (inb_vp hi_5) d_TA_lowestLoose_27 ?_
      refine lv_aload_n hx hb d_TA_lowestLoose_28 rfl (lv_at hl 0 rfl) ?_
      refine va_get (D := (dC, dI)) (ci := 6) (v := .int v0_remains) (C := R_TA) (T := T_TA) (N := 3) hx hb htt hin_TA hown hK hP 0 rfl rfl 2 (by decide) (htt _ kt_197) (fun _ h9 => h9) rfl d_TA_lowestLoose_29 ?_
      refine lv_iand hx hb d_TA_lowestLoose_32 ?_
      obtain ⟨q_6, hc_7, hm⟩ := gM_e hm
      have hPc : va_P (dC, dI) vwCl (wd_Net_allNear cI cJ cG cZ a1 a1_near a1_tail a1_head v1_nodes v1_arcCount v1_version w1_near) H := hP.sub [1, 2] rfl
      have hDc : va_D A (wd_Net_allNear cI cJ cG cZ a1 a1_near a1_tail a1_head v1_nodes v1_arcCount v1_version w1_near) := hD.sub [1, 2] (by decide) rfl
      have hFc : ∀ q, va_A (wd_Net_allNear cI cJ cG cZ a1 a1_near a1_tail a1_head v1_nodes v1_arcCount v1_version w1_near) H.size q → A q := va_free hD hS hA [1, 2] rfl
      refine va_calli (va_runV (As := [.int ((w1_near x2_1.toNatClampNeg) &&& v0_remains)]) (rest := []) ⟨hx, hb, hml, hown, htt⟩ (c_Net_allNear l dC dI cI cJ cG cZ a1 a1_near a1_tail a1_head H.size F v1_nodes v1_arcCount v1_version w1_near ((w1_near x2_1.toNatClampNeg) &&& v0_remains) q_6 hc_7) (cwV 1 htt (gdV kt_570 kt_469 kt_470 kt_2 kt_471) rfl rfl rfl (by decide +kernel) ⟨(Nat.le_of_ble_eq_true rfl), (Nat.le_of_ble_eq_true rfl)⟩) ⟨PcS_blind, va_recv hK hPc (ci := 1) (q0 := 0) rfl rfl, PcS_in hPc hK hDc hNw⟩ rfl rfl hl.1 rfl (lv_room (Nat.le_of_ble_eq_true rfl)) d_TA_lowestLoose_33 ⟨Nat.zero_le _, Nat.zero_le _⟩) hS (fun q _ h => hFc q h) hFc (fun r_8 u t H1 locs ht hvm hw hB hz1 hk1 hS => ?_)
      obtain ⟨hP1, hK1, hD1⟩ := hB
      rw [ht] at hP1
      obtain ⟨hw, hz_9⟩ := hw
      subst hw
      obtain ⟨hP, hD⟩ := va_join (wr := [(a0, .inr (6, [.ref a0_sequence, .int v0_count, .int v0_remains]))]) (w1 := (wd_Net_allNear cI cJ cG cZ a1 a1_near a1_tail a1_head v1_nodes v1_arcCount v1_version w1_near)) hP hD [1, 2] [0] rfl rfl (by decide) (by decide) hk1 hFc hP1 hD1
      have hP : va_P (dC, dI) vwCl (wd_TA_lowestLoose cI cJ cG cZ a0 a1 a0_sequence a1_near a1_tail a1_head v0_count v0_remains v1_nodes v1_arcCount v1_version w1_near) H1 := hP.sub [0, 1, 2] rfl
      have hD : va_D A (wd_TA_lowestLoose cI cJ cG cZ a0 a1 a0_sequence a1_near a1_tail a1_head v0_count v0_remains v1_nodes v1_arcCount v1_version w1_near) := hD.sub [0, 1, 2] (by decide) rfl
      clear hP1 hK1 hD1 hk1 hPc hDc hFc ht hvm hz1
      generalize H1 = H at hP hS ⊢
      refine lv_if_eq (tgt := 41) hx hb d_TA_lowestLoose_36 (by decide) (fun c_10 => ?_) (fun c_10 => ?_)
      · have hm := ite_t c_10 hm
        obtain ⟨x2_11, ex2_11⟩ : ∃ y : Int32, y = x2_1 + 1 := ⟨_, rfl⟩
        have hm := gB_at ex2_11 hm
        refine lv_iinc (v := x2_11) (lv' := [(2, .int x2_11), (0, .ref a0), (1, .ref a1)]) hx hb d_TA_lowestLoose_41 hl (k := 2) rfl (by rw [ex2_11]; rfl) (by decide) rfl (fun ls hl => ?_)
        refine lv_goto (tgt := 2) hx hb d_TA_lowestLoose_44 (by decide) ?_
        exact ih_2 _ hm _ rfl ls H locs (lv_sub hl [1, 2, 0] rfl) hP hD hS
      · have hm := ite_f c_10 hm
        refine lv_iload_n hx hb d_TA_lowestLoose_39 rfl (lv_at hl 2 rfl) ?_
        cases hm
        exact W.iret hx hb hr (fun t ht hW => ⟨⟨_, (), rfl, rfl, by rw [ht]; exact hP, va_K.moved hW.alike hK, hD⟩, hS.F ht⟩) hS.2.2 d_TA_lowestLoose_40
theorem d_TA_run_0 : decode prog_8_method_2_code 0 = .ok (.aload_n 0, 1) := by decide +kernel
theorem d_TA_run_1 : decode prog_8_method_2_code 1 = .ok (.iconst 0, 1) := by decide +kernel
theorem d_TA_run_2 : decode prog_8_method_2_code 2 = .ok (.putfield 15, 3) := by decide +kernel
theorem d_TA_run_5 : decode prog_8_method_2_code 5 = .ok (.aload_n 0, 1) := by decide +kernel
theorem d_TA_run_6 : decode prog_8_method_2_code 6 = .ok (.aload_n 1, 1) := by decide +kernel
theorem d_TA_run_7 : decode prog_8_method_2_code 7 = .ok (.invokevirtual 19, 3) := by decide +kernel
theorem d_TA_run_10 : decode prog_8_method_2_code 10 = .ok (.putfield 25, 3) := by decide +kernel
theorem d_TA_run_13 : decode prog_8_method_2_code 13 = .ok (.iconst 0, 1) := by decide +kernel
theorem d_TA_run_14 : decode prog_8_method_2_code 14 = .ok (.istore_n 2, 1) := by decide +kernel
theorem d_TA_run_15 : decode prog_8_method_2_code 15 = .ok (.iload_n 2, 1) := by decide +kernel
theorem d_TA_run_16 : decode prog_8_method_2_code 16 = .ok (.aload_n 1, 1) := by decide +kernel
theorem d_TA_run_17 : decode prog_8_method_2_code 17 = .ok (.getfield 28, 3) := by decide +kernel
theorem d_TA_run_20 : decode prog_8_method_2_code 20 = .ok (.if_icmp .ge 55, 3) := by decide +kernel
theorem d_TA_run_23 : decode prog_8_method_2_code 23 = .ok (.aload_n 0, 1) := by decide +kernel
theorem d_TA_run_24 : decode prog_8_method_2_code 24 = .ok (.aload_n 1, 1) := by decide +kernel
theorem d_TA_run_25 : decode prog_8_method_2_code 25 = .ok (.invokevirtual 31, 3) := by decide +kernel
theorem d_TA_run_28 : decode prog_8_method_2_code 28 = .ok (.istore_n 3, 1) := by decide +kernel
theorem d_TA_run_29 : decode prog_8_method_2_code 29 = .ok (.iload_n 3, 1) := by decide +kernel
theorem d_TA_run_30 : decode prog_8_method_2_code 30 = .ok (.iconst (-1), 1) := by decide +kernel
theorem d_TA_run_31 : decode prog_8_method_2_code 31 = .ok (.if_icmp .ne 4, 3) := by decide +kernel
theorem d_TA_run_34 : decode prog_8_method_2_code 34 = .ok (.return_, 1) := by decide +kernel
theorem d_TA_run_35 : decode prog_8_method_2_code 35 = .ok (.aload_n 0, 1) := by decide +kernel
theorem d_TA_run_36 : decode prog_8_method_2_code 36 = .ok (.getfield 9, 3) := by decide +kernel
theorem d_TA_run_39 : decode prog_8_method_2_code 39 = .ok (.aload_n 0, 1) := by decide +kernel
theorem d_TA_run_40 : decode prog_8_method_2_code 40 = .ok (.getfield 15, 3) := by decide +kernel
theorem d_TA_run_43 : decode prog_8_method_2_code 43 = .ok (.iload_n 3, 1) := by decide +kernel
theorem d_TA_run_44 : decode prog_8_method_2_code 44 = .ok (.iastore, 1) := by decide +kernel
theorem d_TA_run_45 : decode prog_8_method_2_code 45 = .ok (.aload_n 0, 1) := by decide +kernel
theorem d_TA_run_46 : decode prog_8_method_2_code 46 = .ok (.dup, 1) := by decide +kernel
theorem d_TA_run_47 : decode prog_8_method_2_code 47 = .ok (.getfield 15, 3) := by decide +kernel
theorem d_TA_run_50 : decode prog_8_method_2_code 50 = .ok (.iconst 1, 1) := by decide +kernel
theorem d_TA_run_51 : decode prog_8_method_2_code 51 = .ok (.iadd, 1) := by decide +kernel
theorem d_TA_run_52 : decode prog_8_method_2_code 52 = .ok (.putfield 15, 3) := by decide +kernel
theorem d_TA_run_55 : decode prog_8_method_2_code 55 = .ok (.aload_n 0, 1) := by decide +kernel
theorem d_TA_run_56 : decode prog_8_method_2_code 56 = .ok (.dup, 1) := by decide +kernel
theorem d_TA_run_57 : decode prog_8_method_2_code 57 = .ok (.getfield 25, 3) := by decide +kernel
theorem d_TA_run_60 : decode prog_8_method_2_code 60 = .ok (.iconst 1, 1) := by decide +kernel
theorem d_TA_run_61 : decode prog_8_method_2_code 61 = .ok (.iload_n 3, 1) := by decide +kernel
theorem d_TA_run_62 : decode prog_8_method_2_code 62 = .ok (.ishl, 1) := by decide +kernel
theorem d_TA_run_63 : decode prog_8_method_2_code 63 = .ok (.iconst (-1), 1) := by decide +kernel
theorem d_TA_run_64 : decode prog_8_method_2_code 64 = .ok (.ixor, 1) := by decide +kernel
theorem d_TA_run_65 : decode prog_8_method_2_code 65 = .ok (.iand, 1) := by decide +kernel
theorem d_TA_run_66 : decode prog_8_method_2_code 66 = .ok (.putfield 25, 3) := by decide +kernel
theorem d_TA_run_69 : decode prog_8_method_2_code 69 = .ok (.iinc 2 1, 3) := by decide +kernel
theorem d_TA_run_72 : decode prog_8_method_2_code 72 = .ok (.goto (-57), 3) := by decide +kernel
theorem d_TA_run_75 : decode prog_8_method_2_code 75 = .ok (.return_, 1) := by decide +kernel
abbrev wd_TA_run (cI cJ cG cZ : ClassId) (a0 a1 a0_sequence a1_near a1_tail a1_head : Nat) (v0_count : Int32) (v0_remains : Int32) (w0_sequence : Nat → Int32) (v1_nodes : Int32) (v1_arcCount : Int32) (v1_version : Int32) (w1_near : Nat → Int32) : va_W := [(a0, .inr (6, [.ref a0_sequence, .int v0_count, .int v0_remains])), (a0_sequence, .inl (cI, 12, .inl w0_sequence)), (a1, .inr (1, [.ref a1_near, .ref a1_tail, .ref a1_head, .int v1_nodes, .int v1_arcCount, .int v1_version])), (a1_near, .inl (cI, 12, .inl w1_near))]
abbrev us_TA_run : List Cond := .code y_TA_run prog_8_method_2_code 4 none :: gtbl
abbrev rm_TA_run : Room := { frames := 2, cells := 0, slots := 0, locals := 44 }
def m_TA_run (F : Nat) (v0_count : Int32) (v0_remains : Int32) (w0_sequence : Nat → Int32) (v1_nodes : Int32) (v1_arcCount : Int32) (v1_version : Int32) (w1_near : Nat → Int32) : Option (Int32 × Int32 × (Nat → Int32)) :=
  gM (m_Net_everyNode F v1_nodes v1_arcCount v1_version) (fun q_1 =>
  gL (fun (k_15 : (Int32 × Int32 × Int32 × (Nat → Int32)) → Option (Int32 × Int32 × (Nat → Int32))) (z_15 : Int32 × Int32 × Int32 × (Nat → Int32)) => match z_15 with
  | (x2_4, v0_count_5, v0_remains_6, w0_sequence_7) =>
  if v1_nodes ≤ x2_4 then (
    some (v0_count_5, v0_remains_6, w0_sequence_7)
  ) else (
    gM (m_TA_lowestLoose F v0_count_5 v0_remains_6 v1_nodes v1_arcCount v1_version w1_near) (fun q_9 =>
    if q_9 = ((-1) : Int32) then (
      some (v0_count_5, v0_remains_6, w0_sequence_7)
    ) else (
      gC (inb v0_count_5 12) (
      gB (v0_count_5 + 1) (fun f_14 =>
      gB (v0_remains_6 &&& (((1 : Int32) <<< (q_9 &&& 31)) ^^^ (-1))) (fun f_15 =>
      gB (x2_4 + 1) (fun x2_16 =>
      k_15 (x2_16, f_14, f_15, upd w0_sequence_7 v0_count_5.toNatClampNeg q_9)))))
    ))
  )
  ) F (0, 0, q_1, w0_sequence))
set_option maxHeartbeats 4000000 in
set_option maxRecDepth 100000 in
theorem c_TA_run (l : Launch) (dC : Nat → ClassId) (dI : Nat → Nat → Nat) (cI cJ cG cZ : ClassId) (a0 a1 a0_sequence a1_near a1_tail a1_head : Nat) (sz : Nat) (F : Nat) (v0_count : Int32) (v0_remains : Int32) (w0_sequence : Nat → Int32) (v1_nodes : Int32) (v1_arcCount : Int32) (v1_version : Int32) (w1_near : Nat → Int32) (o_v0_count : Int32) (o_v0_remains : Int32) (o_w0_sequence : Nat → Int32) (hm : m_TA_run F v0_count v0_remains w0_sequence v1_nodes v1_arcCount v1_version w1_near = some (o_v0_count, o_v0_remains, o_w0_sequence)) : Met l y_TA_run us_TA_run rm_TA_run (PcS (dC, dI) (tyL cI cJ cG cZ) [.ref a0, .ref a1] sz (wd_TA_run cI cJ cG cZ a0 a1 a0_sequence a1_near a1_tail a1_head v0_count v0_remains w0_sequence v1_nodes v1_arcCount v1_version w1_near)) (va_Qv (fun (_ : Unit) => True) (fun _ t => PoS (dC, dI) (tyL cI cJ cG cZ) (wd_TA_run cI cJ cG cZ a0 a1 a0_sequence a1_near a1_tail a1_head o_v0_count o_v0_remains o_w0_sequence v1_nodes v1_arcCount v1_version w1_near) (va_A (wd_TA_run cI cJ cG cZ a0 a1 a0_sequence a1_near a1_tail a1_head v0_count v0_remains w0_sequence v1_nodes v1_arcCount v1_version w1_near) sz) t) (va_A (wd_TA_run cI cJ cG cZ a0 a1 a0_sequence a1_near a1_tail a1_head v0_count v0_remains w0_sequence v1_nodes v1_arcCount v1_version w1_near) sz)) 0 0 (va_A (wd_TA_run cI cJ cG cZ a0 a1 a0_sequence a1_near a1_tail a1_head v0_count v0_remains w0_sequence v1_nodes v1_arcCount v1_version w1_near) sz) := by
  refine Met.ofW (cc := prog_8_method_2_code) (maxL := 4) (ret := none) (by decide) rfl ?_
  intro p e s m args below meth c s₁ B hml hv
  obtain ⟨rfl, hsz, hP, hK, hD0, hNw⟩ := hv
  have hx := B.exec
  have hb := B.bytes
  have hr := B.returns
  have htt : ∀ w ∈ gtbl, w.before _ s = true := fun w h => atoms_spec (ws := us_TA_run) B.pre w (List.mem_cons_of_mem _ h)
  have hown : s.vm.findClass R_TA = some m.cls := findClass_of_methodNamed B.named
  have hlocks := B.notSynchronized
  subst hsz
  have hD := hD0.self (sz := s.heap.size)
  generalize hAe : va_A (wd_TA_run cI cJ cG cZ a0 a1 a0_sequence a1_near a1_tail a1_head v0_count v0_remains w0_sequence v1_nodes v1_arcCount v1_version w1_near) s.heap.size = A at hD ⊢
  have hA : ∀ q : Nat, s.heap.size ≤ q → A q := fun q h => by rw [← hAe]; exact Or.inr h
  clear hAe hD0
  have hS : va_S A s.heap s.heap [] := va_S.rf
  have hl := lv_entry ([.ref a0, .ref a1]) (n := 4) (Nat.le_of_ble_eq_true rfl)
  rw [lg_entry_eq]
  generalize (lg_sl ([.ref a0, .ref a1]) ++ List.replicate (4 - (lg_sl ([.ref a0, .ref a1])).length) Slot.unset).toArray = ls at hl ⊢
  have hl : lv_has ls 4 [(0, .ref a0), (1, .ref a1)] := hl
  generalize hH : s.heap = H at hP ⊢
  have hS : va_S A s.heap H [] := hH ▸ hS
  generalize hLo : ([] : List Loc) = locs at hS ⊢
  clear hH hLo
  unfold m_TA_run at hm
  refine lv_aload_n hx hb d_TA_run_0 rfl (lv_at hl 0 rfl) ?_
  refine lv_iconst (v := 0) hx hb d_TA_run_1 (by decide) ?_
  refine va_put (D := (dC, dI)) (ci := 6) (v := .int 0) (ty := .int) (C := R_TA) (T := T_TA) (N := 3) hx hb htt hin_TA ty_TA tyok_TA nm_TA hown hK hP hD hS 0 rfl rfl 1 (by decide) (htt _ kt_195) (fun _ h9 => h9) rfl (by decide +kernel) rfl rfl (Nat.le_of_ble_eq_true rfl) d_TA_run_2 (fun H locs hP hD hS => ?_)
  have hP : va_P (dC, dI) vwCl (wd_TA_run cI cJ cG cZ a0 a1 a0_sequence a1_near a1_tail a1_head 0 v0_remains w0_sequence v1_nodes v1_arcCount v1_version w1_near) H := hP
  have hD : va_D A (wd_TA_run cI cJ cG cZ a0 a1 a0_sequence a1_near a1_tail a1_head 0 v0_remains w0_sequence v1_nodes v1_arcCount v1_version w1_near) := hD
  refine lv_aload_n hx hb d_TA_run_5 rfl (lv_at hl 0 rfl) ?_
  refine lv_aload_n hx hb d_TA_run_6 rfl (lv_at hl 1 rfl) ?_
  obtain ⟨q_1, hc_2, hm⟩ := gM_e hm
  have hPc : va_P (dC, dI) vwCl (wd_Net_everyNode cI cJ cG cZ a1 a1_near a1_tail a1_head v1_nodes v1_arcCount v1_version) H := hP.sub [2] rfl
  have hDc : va_D A (wd_Net_everyNode cI cJ cG cZ a1 a1_near a1_tail a1_head v1_nodes v1_arcCount v1_version) := hD.sub [2] (by decide) rfl
  have hFc : ∀ q, va_A (wd_Net_everyNode cI cJ cG cZ a1 a1_near a1_tail a1_head v1_nodes v1_arcCount v1_version) H.size q → A q := va_free hD hS hA [2] rfl
  refine va_calli (va_runV (As := []) (rest := [.ref a0]) ⟨hx, hb, hml, hown, htt⟩ (c_Net_everyNode l dC dI cI cJ cG cZ a1 a1_near a1_tail a1_head H.size F v1_nodes v1_arcCount v1_version q_1 hc_2) (cwV 0 htt (gdV kt_565 kt_400 kt_401 kt_2 kt_402) rfl rfl rfl (by decide +kernel) ⟨(Nat.le_of_ble_eq_true rfl), (Nat.le_of_ble_eq_true rfl)⟩) ⟨PcS_blind, va_recv hK hPc (ci := 1) (q0 := 0) rfl rfl, PcS_in hPc hK hDc hNw⟩ rfl rfl hl.1 rfl (lv_room (Nat.le_of_ble_eq_true rfl)) d_TA_run_7 ⟨Nat.zero_le _, Nat.zero_le _⟩) hS (fun q _ h => hFc q h) hFc (fun r_3 u t H1 locs ht hvm hw hB hz1 hk1 hS => ?_)
  obtain ⟨hP1, hK1, hD1⟩ := hB
  rw [ht] at hP1
  subst hw
  obtain ⟨hP, hD⟩ := va_join (wr := [(a0, .inr (6, [.ref a0_sequence, .int 0, .int v0_remains])), (a0_sequence, .inl (cI, 12, .inl w0_sequence)), (a1_near, .inl (cI, 12, .inl w1_near))]) (w1 := (wd_Net_everyNode cI cJ cG cZ a1 a1_near a1_tail a1_head v1_nodes v1_arcCount v1_version)) hP hD [2] [0, 1, 3] rfl rfl (by decide) (by decide) hk1 hFc hP1 hD1
  have hP : va_P (dC, dI) vwCl (wd_TA_run cI cJ cG cZ a0 a1 a0_sequence a1_near a1_tail a1_head 0 v0_remains w0_sequence v1_nodes v1_arcCount v1_version w1_near) H1 := hP.sub [0, 1, 3, 2] rfl
  have hD : va_D A (wd_TA_run cI cJ cG cZ a0 a1 a0_sequence a1_near a1_tail a1_head 0 v0_remains w0_sequence v1_nodes v1_arcCount v1_version w1_near) := hD.sub [0, 1, 3, 2] (by decide) rfl
  clear hP1 hK1 hD1 hk1 hPc hDc hFc ht hvm hz1
  generalize H1 = H at hP hS ⊢
  refine va_put (D := (dC, dI)) (ci := 6) (v := .int q_1) (ty := .int) (C := R_TA) (T := T_TA) (N := 3) hx hb htt hin_TA ty_TA tyok_TA nm_TA hown hK hP hD hS 0 rfl rfl 2 (by decide) (htt _ kt_197) (fun _ h9 => h9) rfl (by decide +kernel) rfl rfl (Nat.le_of_ble_eq_true rfl) d_TA_run_10 (fun H locs hP hD hS => ?_)
  have hP : va_P (dC, dI) vwCl (wd_TA_run cI cJ cG cZ a0 a1 a0_sequence a1_near a1_tail a1_head 0 q_1 w0_sequence v1_nodes v1_arcCount v1_version w1_near) H := hP
  have hD : va_D A (wd_TA_run cI cJ cG cZ a0 a1 a0_sequence a1_near a1_tail a1_head 0 q_1 w0_sequence v1_nodes v1_arcCount v1_version w1_near) := hD
  refine lv_iconst (v := 0) hx hb d_TA_run_13 (by decide) ?_
  refine lv_istore_n (lv' := [(2, .int 0), (0, .ref a0), (1, .ref a1)]) hx hb d_TA_run_14 rfl hl (by decide) rfl (fun ls hl => ?_)
  refine gL_e (P := (fun (z_15 : Int32 × Int32 × Int32 × (Nat → Int32)) => ∀ (x2_4 : Int32), ∀ (v0_count_5 : Int32), ∀ (v0_remains_6 : Int32), ∀ (w0_sequence_7 : Nat → Int32), z_15 = (x2_4, v0_count_5, v0_remains_6, w0_sequence_7) → ∀ (ls : Array Slot) (H : Heap) (locs : List Loc), lv_has ls 4 [(0, .ref a0), (1, .ref a1), (2, .int x2_4)] → va_P (dC, dI) vwCl (wd_TA_run cI cJ cG cZ a0 a1 a0_sequence a1_near a1_tail a1_head v0_count_5 v0_remains_6 w0_sequence_7 v1_nodes v1_arcCount v1_version w1_near) H → va_D A (wd_TA_run cI cJ cG cZ a0 a1 a0_sequence a1_near a1_tail a1_head v0_count_5 v0_remains_6 w0_sequence_7 v1_nodes v1_arcCount v1_version w1_near) → va_S A s.heap H locs → W p l e (headSpec us_TA_run rm_TA_run).room s m ([.ref a0, .ref a1] : List Value).toArray below meth c H locs 0 0 (MQ below (va_Qv (fun (_ : Unit) => True) (fun _ t => PoS (dC, dI) (tyL cI cJ cG cZ) (wd_TA_run cI cJ cG cZ a0 a1 a0_sequence a1_near a1_tail a1_head o_v0_count o_v0_remains o_w0_sequence v1_nodes v1_arcCount v1_version w1_near) A t) A) ([.ref a0, .ref a1] : List Value).toArray s 0 0 A) (F0 m 15 ls []))) hm (fun k_15 z_15 ih_15 hm => ?_) _ _ _ _ rfl ls H locs (lv_sub hl [1, 2, 0] rfl) hP hD hS
  intro x2_4 v0_count_5 v0_remains_6 w0_sequence_7 hz ls H locs hl hP hD hS
  subst hz
  dsimp only at hm
  refine lv_iload_n hx hb d_TA_run_15 rfl (lv_at hl 2 rfl) ?_
  refine lv_aload_n hx hb d_TA_run_16 rfl (lv_at hl 1 rfl) ?_
  refine va_get (D := (dC, dI)) (ci := 1) (v := .int v1_nodes) (C := R_Net) (T := T_Net) (N := 6) hx hb htt hin_Net hown hK hP 2 rfl rfl 3 (by decide) (htt _ kt_51) (fun _ h9 => h9) rfl d_TA_run_17 ?_
  refine lv_icmp_ge (tgt := 75) hx hb d_TA_run_20 (by decide) (fun c_8 => ?_) (fun c_8 => ?_)
  · have hm := ite_t c_8 hm
    cases hm
    exact W.vret hx hb hr (fun t ht hW => ⟨⟨(), rfl, trivial, by rw [ht]; exact hP, va_K.moved hW.alike hK, hD⟩, hS.F ht⟩) hS.2.2 d_TA_run_75
  · have hm := ite_f c_8 hm
    refine lv_aload_n hx hb d_TA_run_23 rfl (lv_at hl 0 rfl) ?_
    refine lv_aload_n hx hb d_TA_run_24 rfl (lv_at hl 1 rfl) ?_
    obtain ⟨q_9, hc_10, hm⟩ := gM_e hm
    have hPc : va_P (dC, dI) vwCl (wd_TA_lowestLoose cI cJ cG cZ a0 a1 a0_sequence a1_near a1_tail a1_head v0_count_5 v0_remains_6 v1_nodes v1_arcCount v1_version w1_near) H := hP.sub [0, 2, 3] rfl
    have hDc : va_D A (wd_TA_lowestLoose cI cJ cG cZ a0 a1 a0_sequence a1_near a1_tail a1_head v0_count_5 v0_remains_6 v1_nodes v1_arcCount v1_version w1_near) := hD.sub [0, 2, 3] (by decide) rfl
    have hFc : ∀ q, va_A (wd_TA_lowestLoose cI cJ cG cZ a0 a1 a0_sequence a1_near a1_tail a1_head v0_count_5 v0_remains_6 v1_nodes v1_arcCount v1_version w1_near) H.size q → A q := va_free hD hS hA [0, 2, 3] rfl
    refine va_calli (va_runV (As := [.ref a1]) (rest := []) ⟨hx, hb, hml, hown, htt⟩ (c_TA_lowestLoose l dC dI cI cJ cG cZ a0 a1 a0_sequence a1_near a1_tail a1_head H.size F v0_count_5 v0_remains_6 v1_nodes v1_arcCount v1_version w1_near q_9 hc_10) (cwV 1 htt (gdV kt_566 kt_568 kp_34 kt_7 kt_569) rfl rfl rfl (by decide +kernel) ⟨(Nat.le_of_ble_eq_true rfl), (Nat.le_of_ble_eq_true rfl)⟩) ⟨PcS_blind, va_recv hK hPc (ci := 6) (q0 := 0) rfl rfl, PcS_in hPc hK hDc hNw⟩ rfl rfl hl.1 rfl (lv_room (Nat.le_of_ble_eq_true rfl)) d_TA_run_25 ⟨Nat.zero_le _, Nat.zero_le _⟩) hS (fun q _ h => hFc q h) hFc (fun r_11 u t H1 locs ht hvm hw hB hz1 hk1 hS => ?_)
    obtain ⟨hP1, hK1, hD1⟩ := hB
    rw [ht] at hP1
    subst hw
    obtain ⟨hP, hD⟩ := va_join (wr := [(a0_sequence, .inl (cI, 12, .inl w0_sequence_7))]) (w1 := (wd_TA_lowestLoose cI cJ cG cZ a0 a1 a0_sequence a1_near a1_tail a1_head v0_count_5 v0_remains_6 v1_nodes v1_arcCount v1_version w1_near)) hP hD [0, 2, 3] [1] rfl rfl (by decide) (by decide) hk1 hFc hP1 hD1
    have hP : va_P (dC, dI) vwCl (wd_TA_run cI cJ cG cZ a0 a1 a0_sequence a1_near a1_tail a1_head v0_count_5 v0_remains_6 w0_sequence_7 v1_nodes v1_arcCount v1_version w1_near) H1 := hP.sub [1, 0, 2, 3] rfl
    have hD : va_D A (wd_TA_run cI cJ cG cZ a0 a1 a0_sequence a1_near a1_tail a1_head v0_count_5 v0_remains_6 w0_sequence_7 v1_nodes v1_arcCount v1_version w1_near) := hD.sub [1, 0, 2, 3] (by decide) rfl
    clear hP1 hK1 hD1 hk1 hPc hDc hFc ht hvm hz1
    generalize H1 = H at hP hS ⊢
    refine lv_istore_n (lv' := [(3, .int q_9), (0, .ref a0), (1, .ref a1), (2, .int x2_4)]) hx hb d_TA_run_28 rfl hl (by decide) rfl (fun ls hl => ?_)
    refine lv_iload_n hx hb d_TA_run_29 rfl (lv_at hl 0 rfl) ?_
    refine lv_iconst (v := (-1)) hx hb d_TA_run_30 (by decide) ?_
    refine lv_icmp_ne (tgt := 35) hx hb d_TA_run_31 (by decide) (fun c_12 => ?_) (fun c_12 => ?_)
    · have hm := ite_f c_12 hm
      refine lv_aload_n hx hb d_TA_run_35 rfl (lv_at hl 1 rfl) ?_
      refine va_get (D := (dC, dI)) (ci := 6) (v := .ref a0_sequence) (C := R_TA) (T := T_TA) (N := 3) hx hb htt hin_TA hown hK hP 0 rfl rfl 0 (by decide) (htt _ kt_193) (fun _ h9 => h9) rfl d_TA_run_36 ?_
      refine lv_aload_n hx hb d_TA_run_39 rfl (lv_at hl 1 rfl) ?_
      refine va_get (D := (dC, dI)) (ci := 6) (v := .int v0_count_5) (C := R_TA) (T := T_TA) (N := 3) hx hb htt hin_TA hown hK hP 0 rfl rfl 1 (by decide) (htt _ kt_195) (fun _ h9 => h9) rfl d_TA_run_40 ?_
      refine lv_iload_n hx hb d_TA_run_43 rfl (lv_at hl 0 rfl) ?_
      obtain ⟨hi_13, hm⟩ := gC_e hm
      refine va_iast hx hb hK hP hD hS 1 0 rfl rfl (inb_vp hi_13) d_TA_run_44 (fun H locs hP hD hS => ?_)
      have hP : va_P (dC, dI) vwCl (wd_TA_run cI cJ cG cZ a0 a1 a0_sequence a1_near a1_tail a1_head v0_count_5 v0_remains_6 (upd w0_sequence_7 v0_count_5.toNatClampNeg q_9) v1_nodes v1_arcCount v1_version w1_near) H := hP
      have hD : va_D A (wd_TA_run cI cJ cG cZ a0 a1 a0_sequence a1_near a1_tail a1_head v0_count_5 v0_remains_6 (upd w0_sequence_7 v0_count_5.toNatClampNeg q_9) v1_nodes v1_arcCount v1_version w1_near) := hD
      refine lv_aload_n hx hb d_TA_run_45 rfl (lv_at hl 1 rfl) ?_
      refine lv_dup hx hb d_TA_run_46 rfl ?_
      refine va_get (D := (dC, dI)) (ci := 6) (v := .int v0_count_5) (C := R_TA) (T := T_TA) (N := 3) hx hb htt hin_TA hown hK hP 0 rfl rfl 1 (by decide) (htt _ kt_195) (fun _ h9 => h9) rfl d_TA_run_47 ?_
      refine lv_iconst (v := 1) hx hb d_TA_run_50 (by decide) ?_
      refine lv_iadd hx hb d_TA_run_51 ?_
      refine lv_topi (fun f_14 ef_14 => ?_)
      have hm := gB_at ef_14 hm
      refine va_put (D := (dC, dI)) (ci := 6) (v := .int f_14) (ty := .int) (C := R_TA) (T := T_TA) (N := 3) hx hb htt hin_TA ty_TA tyok_TA nm_TA hown hK hP hD hS 0 rfl rfl 1 (by decide) (htt _ kt_195) (fun _ h9 => h9) rfl (by decide +kernel) rfl rfl (Nat.le_of_ble_eq_true rfl) d_TA_run_52 (fun H locs hP hD hS => ?_)
      have hP : va_P (dC, dI) vwCl (wd_TA_run cI cJ cG cZ a0 a1 a0_sequence a1_near a1_tail a1_head f_14 v0_remains_6 (upd w0_sequence_7 v0_count_5.toNatClampNeg q_9) v1_nodes v1_arcCount v1_version w1_near) H := hP
      have hD : va_D A (wd_TA_run cI cJ cG cZ a0 a1 a0_sequence a1_near a1_tail a1_head f_14 v0_remains_6 (upd w0_sequence_7 v0_count_5.toNatClampNeg q_9) v1_nodes v1_arcCount v1_version w1_near) := hD
      refine lv_aload_n hx hb d_TA_run_55 rfl (lv_at hl 1 rfl) ?_
      refine lv_dup hx hb d_TA_run_56 rfl ?_
      refine va_get (D := (dC, dI)) (ci := 6) (v := .int v0_remains_6) (C := R_TA) (T := T_TA) (N := 3) hx hb htt hin_TA hown hK hP 0 rfl rfl 2 (by decide) (htt _ kt_197) (fun _ h9 => h9) rfl d_TA_run_57 ?_
      refine lv_iconst (v := 1) hx hb d_TA_run_60 (by decide) ?_
      refine lv_iload_n hx hb d_TA_run_61 rfl (lv_at hl 0 rfl) ?_
      refine lv_ishl hx hb d_TA_run_62 ?_
      refine lv_iconst (v := (-1)) hx hb d_TA_run_63 (by decide) ?_
      refine lv_ixor hx hb d_TA_run_64 ?_
      refine lv_iand hx hb d_TA_run_65 ?_
      refine lv_topi (fun f_15 ef_15 => ?_)
      have hm := gB_at ef_15 hm
      refine va_put (D := (dC, dI)) (ci := 6) (v := .int f_15) (ty := .int) (C := R_TA) (T := T_TA) (N := 3) hx hb htt hin_TA ty_TA tyok_TA nm_TA hown hK hP hD hS 0 rfl rfl 2 (by decide) (htt _ kt_197) (fun _ h9 => h9) rfl (by decide +kernel) rfl rfl (Nat.le_of_ble_eq_true rfl) d_TA_run_66 (fun H locs hP hD hS => ?_)
      have hP : va_P (dC, dI) vwCl (wd_TA_run cI cJ cG cZ a0 a1 a0_sequence a1_near a1_tail a1_head f_14 f_15 (upd w0_sequence_7 v0_count_5.toNatClampNeg q_9) v1_nodes v1_arcCount v1_version w1_near) H := hP
      have hD : va_D A (wd_TA_run cI cJ cG cZ a0 a1 a0_sequence a1_near a1_tail a1_head f_14 f_15 (upd w0_sequence_7 v0_count_5.toNatClampNeg q_9) v1_nodes v1_arcCount v1_version w1_near) := hD
      obtain ⟨x2_16, ex2_16⟩ : ∃ y : Int32, y = x2_4 + 1 := ⟨_, rfl⟩
      have hm := gB_at ex2_16 hm
      refine lv_iinc (v := x2_16) (lv' := [(2, .int x2_16), (3, .int q_9), (0, .ref a0), (1, .ref a1)]) hx hb d_TA_run_69 hl (k := 3) rfl (by rw [ex2_16]; rfl) (by decide) rfl (fun ls hl => ?_)
      refine lv_goto (tgt := 15) hx hb d_TA_run_72 (by decide) ?_
      exact ih_15 _ hm _ _ _ _ rfl ls H locs (lv_sub hl [2, 3, 0] rfl) hP hD hS
    · have hm := ite_t c_12 hm
      cases hm
      exact W.vret hx hb hr (fun t ht hW => ⟨⟨(), rfl, trivial, by rw [ht]; exact hP, va_K.moved hW.alike hK, hD⟩, hS.F ht⟩) hS.2.2 d_TA_run_34
theorem d_TA_forget_0 : decode prog_8_method_3_code 0 = .ok (.aload_n 0, 1) := by decide +kernel
theorem d_TA_forget_1 : decode prog_8_method_3_code 1 = .ok (.iconst 0, 1) := by decide +kernel
theorem d_TA_forget_2 : decode prog_8_method_3_code 2 = .ok (.putfield 15, 3) := by decide +kernel
theorem d_TA_forget_5 : decode prog_8_method_3_code 5 = .ok (.aload_n 0, 1) := by decide +kernel
theorem d_TA_forget_6 : decode prog_8_method_3_code 6 = .ok (.iconst 0, 1) := by decide +kernel
theorem d_TA_forget_7 : decode prog_8_method_3_code 7 = .ok (.putfield 25, 3) := by decide +kernel
theorem d_TA_forget_10 : decode prog_8_method_3_code 10 = .ok (.return_, 1) := by decide +kernel
abbrev wd_TA_forget (cI cJ cG cZ : ClassId) (a0 a0_sequence : Nat) (v0_count : Int32) (v0_remains : Int32) : va_W := [(a0, .inr (6, [.ref a0_sequence, .int v0_count, .int v0_remains]))]
abbrev us_TA_forget : List Cond := .code y_TA_forget prog_8_method_3_code 1 none :: gtbl
abbrev rm_TA_forget : Room := { frames := 0, cells := 0, slots := 0, locals := 0 }
def m_TA_forget (F : Nat) (v0_count : Int32) (v0_remains : Int32) : Option (Int32 × Int32) :=
  some (0, 0)
set_option maxHeartbeats 4000000 in
set_option maxRecDepth 100000 in
theorem c_TA_forget (l : Launch) (dC : Nat → ClassId) (dI : Nat → Nat → Nat) (cI cJ cG cZ : ClassId) (a0 a0_sequence : Nat) (sz : Nat) (F : Nat) (v0_count : Int32) (v0_remains : Int32) (o_v0_count : Int32) (o_v0_remains : Int32) (hm : m_TA_forget F v0_count v0_remains = some (o_v0_count, o_v0_remains)) : Met l y_TA_forget us_TA_forget rm_TA_forget (PcS (dC, dI) (tyL cI cJ cG cZ) [.ref a0] sz (wd_TA_forget cI cJ cG cZ a0 a0_sequence v0_count v0_remains)) (va_Qv (fun (_ : Unit) => True) (fun _ t => PoS (dC, dI) (tyL cI cJ cG cZ) (wd_TA_forget cI cJ cG cZ a0 a0_sequence o_v0_count o_v0_remains) (va_A (wd_TA_forget cI cJ cG cZ a0 a0_sequence v0_count v0_remains) sz) t) (va_A (wd_TA_forget cI cJ cG cZ a0 a0_sequence v0_count v0_remains) sz)) 0 0 (va_A (wd_TA_forget cI cJ cG cZ a0 a0_sequence v0_count v0_remains) sz) := by
  refine Met.ofW (cc := prog_8_method_3_code) (maxL := 1) (ret := none) (by decide) rfl ?_
  intro p e s m args below meth c s₁ B hml hv
  obtain ⟨rfl, hsz, hP, hK, hD0, hNw⟩ := hv
  have hx := B.exec
  have hb := B.bytes
  have hr := B.returns
  have htt : ∀ w ∈ gtbl, w.before _ s = true := fun w h => atoms_spec (ws := us_TA_forget) B.pre w (List.mem_cons_of_mem _ h)
  have hown : s.vm.findClass R_TA = some m.cls := findClass_of_methodNamed B.named
  have hlocks := B.notSynchronized
  subst hsz
  have hD := hD0.self (sz := s.heap.size)
  generalize hAe : va_A (wd_TA_forget cI cJ cG cZ a0 a0_sequence v0_count v0_remains) s.heap.size = A at hD ⊢
  have hA : ∀ q : Nat, s.heap.size ≤ q → A q := fun q h => by rw [← hAe]; exact Or.inr h
  clear hAe hD0
  have hS : va_S A s.heap s.heap [] := va_S.rf
  have hl := lv_entry ([.ref a0]) (n := 1) (Nat.le_of_ble_eq_true rfl)
  rw [lg_entry_eq]
  generalize (lg_sl ([.ref a0]) ++ List.replicate (1 - (lg_sl ([.ref a0])).length) Slot.unset).toArray = ls at hl ⊢
  have hl : lv_has ls 1 [(0, .ref a0)] := hl
  generalize hH : s.heap = H at hP ⊢
  have hS : va_S A s.heap H [] := hH ▸ hS
  generalize hLo : ([] : List Loc) = locs at hS ⊢
  clear hH hLo
  unfold m_TA_forget at hm
  refine lv_aload_n hx hb d_TA_forget_0 rfl (lv_at hl 0 rfl) ?_
  refine lv_iconst (v := 0) hx hb d_TA_forget_1 (by decide) ?_
  refine va_put (D := (dC, dI)) (ci := 6) (v := .int 0) (ty := .int) (C := R_TA) (T := T_TA) (N := 3) hx hb htt hin_TA ty_TA tyok_TA nm_TA hown hK hP hD hS 0 rfl rfl 1 (by decide) (htt _ kt_195) (fun _ h9 => h9) rfl (by decide +kernel) rfl rfl (Nat.le_of_ble_eq_true rfl) d_TA_forget_2 (fun H locs hP hD hS => ?_)
  have hP : va_P (dC, dI) vwCl (wd_TA_forget cI cJ cG cZ a0 a0_sequence 0 v0_remains) H := hP
  have hD : va_D A (wd_TA_forget cI cJ cG cZ a0 a0_sequence 0 v0_remains) := hD
  refine lv_aload_n hx hb d_TA_forget_5 rfl (lv_at hl 0 rfl) ?_
  refine lv_iconst (v := 0) hx hb d_TA_forget_6 (by decide) ?_
  refine va_put (D := (dC, dI)) (ci := 6) (v := .int 0) (ty := .int) (C := R_TA) (T := T_TA) (N := 3) hx hb htt hin_TA ty_TA tyok_TA nm_TA hown hK hP hD hS 0 rfl rfl 2 (by decide) (htt _ kt_197) (fun _ h9 => h9) rfl (by decide +kernel) rfl rfl (Nat.le_of_ble_eq_true rfl) d_TA_forget_7 (fun H locs hP hD hS => ?_)
  have hP : va_P (dC, dI) vwCl (wd_TA_forget cI cJ cG cZ a0 a0_sequence 0 0) H := hP
  have hD : va_D A (wd_TA_forget cI cJ cG cZ a0 a0_sequence 0 0) := hD
  cases hm
  exact W.vret hx hb hr (fun t ht hW => ⟨⟨(), rfl, trivial, by rw [ht]; exact hP, va_K.moved hW.alike hK, hD⟩, hS.F ht⟩) hS.2.2 d_TA_forget_10
