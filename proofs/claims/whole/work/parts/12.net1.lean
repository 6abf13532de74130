theorem d_Net_countParts_0 : decode prog_4_method_12_code 0 = .ok (.iconst 0, 1) := by decide +kernel
theorem d_Net_countParts_1 : decode prog_4_method_12_code 1 = .ok (.istore_n 1, 1) := by decide +kernel
theorem d_Net_countParts_2 : decode prog_4_method_12_code 2 = .ok (.iconst 0, 1) := by decide +kernel
theorem d_Net_countParts_3 : decode prog_4_method_12_code 3 = .ok (.istore_n 2, 1) := by decide +kernel
theorem d_Net_countParts_4 : decode prog_4_method_12_code 4 = .ok (.iconst 0, 1) := by decide +kernel
theorem d_Net_countParts_5 : decode prog_4_method_12_code 5 = .ok (.istore_n 3, 1) := by decide +kernel
theorem d_Net_countParts_6 : decode prog_4_method_12_code 6 = .ok (.iload_n 3, 1) := by decide +kernel
theorem d_Net_countParts_7 : decode prog_4_method_12_code 7 = .ok (.aload_n 0, 1) := by decide +kernel
theorem d_Net_countParts_8 : decode prog_4_method_12_code 8 = .ok (.getfield 21, 3) := by decide +kernel
theorem d_Net_countParts_11 : decode prog_4_method_12_code 11 = .ok (.if_icmp .ge 34, 3) := by decide +kernel
theorem d_Net_countParts_14 : decode prog_4_method_12_code 14 = .ok (.iload_n 2, 1) := by decide +kernel
theorem d_Net_countParts_15 : decode prog_4_method_12_code 15 = .ok (.iload_n 3, 1) := by decide +kernel
theorem d_Net_countParts_16 : decode prog_4_method_12_code 16 = .ok (.ishr, 1) := by decide +kernel
theorem d_Net_countParts_17 : decode prog_4_method_12_code 17 = .ok (.iconst 1, 1) := by decide +kernel
theorem d_Net_countParts_18 : decode prog_4_method_12_code 18 = .ok (.iand, 1) := by decide +kernel
theorem d_Net_countParts_19 : decode prog_4_method_12_code 19 = .ok (.ifCond .ne 20, 3) := by decide +kernel
theorem d_Net_countParts_22 : decode prog_4_method_12_code 22 = .ok (.iload_n 2, 1) := by decide +kernel
theorem d_Net_countParts_23 : decode prog_4_method_12_code 23 = .ok (.aload_n 0, 1) := by decide +kernel
theorem d_Net_countParts_24 : decode prog_4_method_12_code 24 = .ok (.iconst 1, 1) := by decide +kernel
theorem d_Net_countParts_25 : decode prog_4_method_12_code 25 = .ok (.iload_n 3, 1) := by decide +kernel
theorem d_Net_countParts_26 : decode prog_4_method_12_code 26 = .ok (.ishl, 1) := by decide +kernel
theorem d_Net_countParts_27 : decode prog_4_method_12_code 27 = .ok (.aload_n 0, 1) := by decide +kernel
theorem d_Net_countParts_28 : decode prog_4_method_12_code 28 = .ok (.invokevirtual 53, 3) := by decide +kernel
theorem d_Net_countParts_31 : decode prog_4_method_12_code 31 = .ok (.invokevirtual 57, 3) := by decide +kernel
theorem d_Net_countParts_34 : decode prog_4_method_12_code 34 = .ok (.ior, 1) := by decide +kernel
theorem d_Net_countParts_35 : decode prog_4_method_12_code 35 = .ok (.istore_n 2, 1) := by decide +kernel
theorem d_Net_countParts_36 : decode prog_4_method_12_code 36 = .ok (.iinc 1 1, 3) := by decide +kernel
theorem d_Net_countParts_39 : decode prog_4_method_12_code 39 = .ok (.iinc 3 1, 3) := by decide +kernel
theorem d_Net_countParts_42 : decode prog_4_method_12_code 42 = .ok (.goto (-36), 3) := by decide +kernel
theorem d_Net_countParts_45 : decode prog_4_method_12_code 45 = .ok (.iload_n 1, 1) := by decide +kernel
theorem d_Net_countParts_46 : decode prog_4_method_12_code 46 = .ok (.ireturn, 1) := by decide +kernel
abbrev wd_Net_countParts (cI cJ cG cZ : ClassId) (a0 a0_near a0_tail a0_head : Nat) (v0_nodes : Int32) (v0_arcCount : Int32) (v0_version : Int32) (w0_near : Nat → Int32) : va_W := [(a0, .inr (1, [.ref a0_near, .ref a0_tail, .ref a0_head, .int v0_nodes, .int v0_arcCount, .int v0_version])), (a0_near, .inl (cI, 12, .inl w0_near))]
abbrev us_Net_countParts : List Cond := .code y_Net_countParts prog_4_method_12_code 4 (some .int) :: gtbl
abbrev rm_Net_countParts : Room := { frames := 1, cells := 0, slots := 0, locals := 27 }
def m_Net_countParts (F : Nat) (v0_nodes : Int32) (v0_arcCount : Int32) (v0_version : Int32) (w0_near : Nat → Int32) : Option (Int32) :=
  gL (fun (k_6 : (Int32 × Int32 × Int32) → Option (Int32)) (z_6 : Int32 × Int32 × Int32) => match z_6 with
  | (x1_1, x2_2, x3_3) =>
  if v0_nodes ≤ x3_3 then (
    some x1_1
  ) else (
    if ((x2_2 >>> (x3_3 &&& 31)) &&& 1) = 0 then (
      gM (m_Net_everyNode F v0_nodes v0_arcCount v0_version) (fun q_7 =>
      gM (m_Net_partOf F v0_nodes v0_arcCount v0_version w0_near ((1 : Int32) <<< (x3_3 &&& 31)) q_7) (fun q_10 =>
      gB (x2_2 ||| q_10) (fun x2_13 =>
      gB (x1_1 + 1) (fun x1_14 =>
      gB (x3_3 + 1) (fun x3_15 =>
      k_6 (x1_14, x2_13, x3_15))))))
    ) else (
      gB (x3_3 + 1) (fun x3_6 =>
      k_6 (x1_1, x2_2, x3_6))
    )
  )
  ) F (0, 0, 0)
set_option maxHeartbeats 4000000 in
set_option maxRecDepth 100000 in
theorem c_Net_countParts (l : Launch) (dC : Nat → ClassId) (dI : Nat → Nat → Nat) (cI cJ cG cZ : ClassId) (a0 a0_near a0_tail a0_head : Nat) (sz : Nat) (F : Nat) (v0_nodes : Int32) (v0_arcCount : Int32) (v0_version : Int32) (w0_near : Nat → Int32) (ret : Int32) (hm : m_Net_countParts F v0_nodes v0_arcCount v0_version w0_near = some ret) : Met l y_Net_countParts us_Net_countParts rm_Net_countParts (PcS (dC, dI) (tyL cI cJ cG cZ) [.ref a0] sz (wd_Net_countParts cI cJ cG cZ a0 a0_near a0_tail a0_head v0_nodes v0_arcCount v0_version w0_near)) (va_Qi (fun (r : Int32) (_ : Unit) => ret = r) (fun _ t => PoS (dC, dI) (tyL cI cJ cG cZ) (wd_Net_countParts cI cJ cG cZ a0 a0_near a0_tail a0_head v0_nodes v0_arcCount v0_version w0_near) (va_A (wd_Net_countParts cI cJ cG cZ a0 a0_near a0_tail a0_head v0_nodes v0_arcCount v0_version w0_near) sz) t) (va_A (wd_Net_countParts cI cJ cG cZ a0 a0_near a0_tail a0_head v0_nodes v0_arcCount v0_version w0_near) sz)) 0 0 (va_A (wd_Net_countParts cI cJ cG cZ a0 a0_near a0_tail a0_head v0_nodes v0_arcCount v0_version w0_near) sz) := by
  refine Met.ofW (cc := prog_4_method_12_code) (maxL := 4) (ret := (some .int)) (by decide) rfl ?_
  intro p e s m args below meth c s₁ B hml hv
  obtain ⟨rfl, hsz, hP, hK, hD0, hNw⟩ := hv
  have hx := B.exec
  have hb := B.bytes
  have hr := B.returns
  have htt : ∀ w ∈ gtbl, w.before _ s = true := fun w h => atoms_spec (ws := us_Net_countParts) B.pre w (List.mem_cons_of_mem _ h)
  have hown : s.vm.findClass R_Net = some m.cls := findClass_of_methodNamed B.named
  have hlocks := B.notSynchronized
  subst hsz
  have hD := hD0.self (sz := s.heap.size)
  generalize hAe : va_A (wd_Net_countParts cI cJ cG cZ a0 a0_near a0_tail a0_head v0_nodes v0_arcCount v0_version w0_near) s.heap.size = A at hD ⊢
  have hA : ∀ q : Nat, s.heap.size ≤ q → A q := fun q h => by rw [← hAe]; exact Or.inr h
  clear hAe hD0
  have hS : va_S A s.heap s.heap [] := va_S.rf
  have hl := lv_entry ([.ref a0]) (n := 4) (Nat.le_of_ble_eq_true rfl)
  rw [lg_entry_eq]
  generalize (lg_sl ([.ref a0]) ++ List.replicate (4 - (lg_sl ([.ref a0])).length) Slot.unset).toArray = ls at hl ⊢
  have hl : lv_has ls 4 [(0, .ref a0)] := hl
  generalize hH : s.heap = H at hP ⊢
  have hS : va_S A s.heap H [] := hH ▸ hS
  generalize hLo : ([] : List Loc) = locs at hS ⊢
  clear hH hLo
  unfold m_Net_countParts at hm
  refine lv_iconst (v := 0) hx hb d_Net_countParts_0 (by decide) ?_
  refine lv_istore_n (lv' := [(1, .int 0), (0, .ref a0)]) hx hb d_Net_countParts_1 rfl hl (by decide) rfl (fun ls hl => ?_)
  refine lv_iconst (v := 0) hx hb d_Net_countParts_2 (by decide) ?_
  refine lv_istore_n (lv' := [(2, .int 0), (1, .int 0), (0, .ref a0)]) hx hb d_Net_countParts_3 rfl hl (by decide) rfl (fun ls hl => ?_)
  refine lv_iconst (v := 0) hx hb d_Net_countParts_4 (by decide) ?_
  refine lv_istore_n (lv' := [(3, .int 0), (2, .int 0), (1, .int 0), (0, .ref a0)]) hx hb d_Net_countParts_5 rfl hl (by decide) rfl (fun ls hl => ?_)
  refine gL_e (P := (fun (z_6 : Int32 × Int32 × Int32) => ∀ (x1_1 : Int32), ∀ (x2_2 : Int32), ∀ (x3_3 : Int32), z_6 = (x1_1, x2_2, x3_3) → ∀ (ls : Array Slot) (H : Heap) (locs : List Loc), lv_has ls 4 [(0, .ref a0), (1, .int x1_1), (2, .int x2_2), (3, .int x3_3)] → va_P (dC, dI) vwCl (wd_Net_countParts cI cJ cG cZ a0 a0_near a0_tail a0_head v0_nodes v0_arcCount v0_version w0_near) H → va_D A (wd_Net_countParts cI cJ cG cZ a0 a0_near a0_tail a0_head v0_nodes v0_arcCount v0_version w0_near) → va_S A s.heap H locs → W p l e (headSpec us_Net_countParts rm_Net_countParts).room s m ([.ref a0] : List Value).toArray below meth c H locs 0 0 (MQ below (va_Qi (fun (r : Int32) (_ : Unit) => ret = r) (fun _ t => PoS (dC, dI) (tyL cI cJ cG cZ) (wd_Net_countParts cI cJ cG cZ a0 a0_near a0_tail a0_head v0_nodes v0_arcCount v0_version w0_near) A t) A) ([.ref a0] : List Value).toArray s 0 0 A) (F0 m 6 ls []))) hm (fun k_6 z_6 ih_6 hm => ?_) _ _ _ rfl ls H locs (lv_sub hl [3, 2, 1, 0] rfl) hP hD hS
  intro x1_1 x2_2 x3_3 hz ls H locs hl hP hD hS
  subst hz
  dsimp only at hm
  refine lv_iload_n hx hb d_Net_countParts_6 rfl (lv_at hl 3 rfl) ?_
  refine lv_aload_n hx hb d_Net_countParts_7 rfl (lv_at hl 0 rfl) ?_
  refine va_get (D := (dC, dI)) (ci := 1) (v := .int v0_nodes) (C := R_Net) (T := T_Net) (N := 6) hx hb htt hin_Net hown hK hP 0 rfl rfl 3 (by decide) (htt _ kt_47) (fun _ h9 => h9) rfl d_Net_countParts_8 ?_
  refine lv_icmp_ge (tgt := 45) hx hb d_Net_countParts_11 (by decide) (fun c_4 => ?_) (fun c_4 => ?_)
  · have hm := ite_t c_4 hm
    refine lv_iload_n hx hb d_Net_countParts_45 rfl (lv_at hl 1 rfl) ?_
    cases hm
    exact W.iret hx hb hr (fun t ht hW => ⟨⟨_, (), rfl, rfl, by rw [ht]; exact hP, va_K.moved hW.alike hK, hD⟩, hS.F ht⟩) hS.2.2 d_Net_countParts_46
  · have hm := ite_f c_4 hm
    refine lv_iload_n hx hb d_Net_countParts_14 rfl (lv_at hl 2 rfl) ?_
    refine lv_iload_n hx hb d_Net_countParts_15 rfl (lv_at hl 3 rfl) ?_
    refine lv_ishr hx hb d_Net_countParts_16 ?_
    refine lv_iconst (v := 1) hx hb d_Net_countParts_17 (by decide) ?_
    refine lv_iand hx hb d_Net_countParts_18 ?_
    refine lv_if_ne (tgt := 39) hx hb d_Net_countParts_19 (by decide) (fun c_5 => ?_) (fun c_5 => ?_)
    · have hm := ite_f c_5 hm
      obtain ⟨x3_6, ex3_6⟩ : ∃ y : Int32, y = x3_3 + 1 := ⟨_, rfl⟩
      have hm := gB_at ex3_6 hm
      refine lv_iinc (v := x3_6) (lv' := [(3, .int x3_6), (0, .ref a0), (1, .int x1_1), (2, .int x2_2)]) hx hb d_Net_countParts_39 hl (k := 3) rfl (by rw [ex3_6]; rfl) (by decide) rfl (fun ls hl => ?_)
      refine lv_goto (tgt := 6) hx hb d_Net_countParts_42 (by decide) ?_
      exact ih_6 _ hm _ _ _ rfl ls H locs (lv_sub hl [1, 2, 3, 0] rfl) hP hD hS
    · have hm := ite_t c_5 hm
      refine lv_iload_n hx hb d_Net_countParts_22 rfl (lv_at hl 2 rfl) ?_
      refine lv_aload_n hx hb d_Net_countParts_23 rfl (lv_at hl 0 rfl) ?_
      refine lv_iconst (v := 1) hx hb d_Net_countParts_24 (by decide) ?_
      refine lv_iload_n hx hb d_Net_countParts_25 rfl (lv_at hl 3 rfl) ?_
      refine lv_ishl hx hb d_Net_countParts_26 ?_
      refine lv_aload_n hx hb d_Net_countParts_27 rfl (lv_at hl 0 rfl) ?_
      obtain ⟨q_7, hc_8, hm⟩ := gM_e hm
      have hPc : va_P (dC, dI) vwCl (wd_Net_everyNode cI cJ cG cZ a0 a0_near a0_tail a0_head v0_nodes v0_arcCount v0_version) H := hP.sub [0] rfl
      have hDc : va_D A (wd_Net_everyNode cI cJ cG cZ a0 a0_near a0_tail a0_head v0_nodes v0_arcCount v0_version) := hD.sub [0] (by decide) rfl
      have hFc : ∀ q, va_A (wd_Net_everyNode cI cJ cG cZ a0 a0_near a0_tail a0_head v0_nodes v0_arcCount v0_version) H.size q → A q := va_free hD hS hA [0] rfl
      refine va_calli (va_runV (As := []) (rest := [.int ((1 : Int32) <<< (x3_3 &&& 31)), .ref a0, .int x2_2]) ⟨hx, hb, hml, hown, htt⟩ (c_Net_everyNode l dC dI cI cJ cG cZ a0 a0_near a0_tail a0_head H.size F v0_nodes v0_arcCount v0_version q_7 hc_8) (cwV 0 htt (gdV kt_650 kt_400 kt_401 kt_2 kt_402) rfl rfl rfl (by decide +kernel) ⟨(Nat.le_of_ble_eq_true rfl), (Nat.le_of_ble_eq_true rfl)⟩) ⟨PcS_blind, va_recv hK hPc (ci := 1) (q0 := 0) rfl rfl, PcS_in hPc hK hDc hNw⟩ rfl rfl hl.1 rfl (lv_room (Nat.le_of_ble_eq_true rfl)) d_Net_countParts_28 ⟨Nat.zero_le _, Nat.zero_le _⟩) hS (fun q _ h => hFc q h) hFc (fun r_9 u t H1 locs ht hvm hw hB hz1 hk1 hS => ?_)
      obtain ⟨hP1, hK1, hD1⟩ := hB
      rw [ht] at hP1
      subst hw
      obtain ⟨hP, hD⟩ := va_join (wr := [(a0_near, .inl (cI, 12, .inl w0_near))]) (w1 := (wd_Net_everyNode cI cJ cG cZ a0 a0_near a0_tail a0_head v0_nodes v0_arcCount v0_version)) hP hD [0] [1] rfl rfl (by decide) (by decide) hk1 hFc hP1 hD1
      have hP : va_P (dC, dI) vwCl (wd_Net_countParts cI cJ cG cZ a0 a0_near a0_tail a0_head v0_nodes v0_arcCount v0_version w0_near) H1 := hP.sub [1, 0] rfl
      have hD : va_D A (wd_Net_countParts cI cJ cG cZ a0 a0_near a0_tail a0_head v0_nodes v0_arcCount v0_version w0_near) := hD.sub [1, 0] (by decide) rfl
      clear hP1 hK1 hD1 hk1 hPc hDc hFc ht hvm hz1
      generalize H1 = H at hP hS ⊢
      obtain ⟨q_10, hc_11, hm⟩ := gM_e hm
      have hPc : va_P (dC, dI) vwCl (wd_Net_partOf cI cJ cG cZ a0 a0_near a0_tail a0_head v0_nodes v0_arcCount v0_version w0_near) H := hP.sub [0, 1] rfl
      have hDc : va_D A (wd_Net_partOf cI cJ cG cZ a0 a0_near a0_tail a0_head v0_nodes v0_arcCount v0_version w0_near) := hD.sub [0, 1] (by decide) rfl
      have hFc : ∀ q, va_A (wd_Net_partOf cI cJ cG cZ a0 a0_near a0_tail a0_head v0_nodes v0_arcCount v0_version w0_near) H.size q → A q := va_free hD hS hA [0, 1] rfl
      refine va_calli (va_runV (As := [.int ((1 : Int32) <<< (x3_3 &&& 31)), .int q_7]) (rest := [.int x2_2]) ⟨hx, hb, hml, hown, htt⟩ (c_Net_partOf l dC dI cI cJ cG cZ a0 a0_near a0_tail a0_head H.size F v0_nodes v0_arcCount v0_version w0_near ((1 : Int32) <<< (x3_3 &&& 31)) q_7 q_10 hc_11) (cwV 2 htt (gdV kt_651 kt_481 kt_482 kt_2 kt_483) rfl rfl rfl (by decide +kernel) ⟨(Nat.le_of_ble_eq_true rfl), (Nat.le_of_ble_eq_true rfl)⟩) ⟨PcS_blind, va_recv hK hPc (ci := 1) (q0 := 0) rfl rfl, PcS_in hPc hK hDc hNw⟩ rfl rfl hl.1 rfl (lv_room (Nat.le_of_ble_eq_true rfl)) d_Net_countParts_31 ⟨Nat.zero_le _, Nat.zero_le _⟩) hS (fun q _ h => hFc q h) hFc (fun r_12 u t H1 locs ht hvm hw hB hz1 hk1 hS => ?_)
      obtain ⟨hP1, hK1, hD1⟩ := hB
      rw [ht] at hP1
      subst hw
      obtain ⟨hP, hD⟩ := va_join (wr := []) (w1 := (wd_Net_partOf cI cJ cG cZ a0 a0_near a0_tail a0_head v0_nodes v0_arcCount v0_version w0_near)) hP hD [0, 1] [] rfl rfl (by decide) (by decide) hk1 hFc hP1 hD1
      have hP : va_P (dC, dI) vwCl (wd_Net_countParts cI cJ cG cZ a0 a0_near a0_tail a0_head v0_nodes v0_arcCount v0_version w0_near) H1 := hP.sub [0, 1] rfl
      have hD : va_D A (wd_Net_countParts cI cJ cG cZ a0 a0_near a0_tail a0_head v0_nodes v0_arcCount v0_version w0_near) := hD.sub [0, 1] (by decide) rfl
      clear hP1 hK1 hD1 hk1 hPc hDc hFc ht hvm hz1
      generalize H1 = H at hP hS ⊢
      refine lv_ior hx hb d_Net_countParts_34 ?_
      refine lv_topi (fun x2_13 ex2_13 => ?_)
      have hm := gB_at ex2_13 hm
      refine lv_istore_n (lv' := [(2, .int x2_13), (0, .ref a0), (1, .int x1_1), (3, .int x3_3)]) hx hb d_Net_countParts_35 rfl hl (by decide) rfl (fun ls hl => ?_)
      obtain ⟨x1_14, ex1_14⟩ : ∃ y : Int32, y = x1_1 + 1 := ⟨_, rfl⟩
      have hm := gB_at ex1_14 hm
      refine lv_iinc (v := x1_14) (lv' := [(1, .int x1_14), (2, .int x2_13), (0, .ref a0), (3, .int x3_3)]) hx hb d_Net_countParts_36 hl (k := 2) rfl (by rw [ex1_14]; rfl) (by decide) rfl (fun ls hl => ?_)
      obtain ⟨x3_15, ex3_15⟩ : ∃ y : Int32, y = x3_3 + 1 := ⟨_, rfl⟩
      have hm := gB_at ex3_15 hm
      refine lv_iinc (v := x3_15) (lv' := [(3, .int x3_15), (1, .int x1_14), (2, .int x2_13), (0, .ref a0)]) hx hb d_Net_countParts_39 hl (k := 3) rfl (by rw [ex3_15]; rfl) (by decide) rfl (fun ls hl => ?_)
      refine lv_goto (tgt := 6) hx hb d_Net_countParts_42 (by decide) ?_
      exact ih_6 _ hm _ _ _ rfl ls H locs (lv_sub hl [3, 1, 2, 0] rfl) hP hD hS
