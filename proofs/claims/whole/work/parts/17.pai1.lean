theorem d_Pai_openColours_0 : decode prog_5_method_17_code 0 = .ok (.aload_n 0, 1) := by decide +kernel
theorem d_Pai_openColours_1 : decode prog_5_method_17_code 1 = .ok (.getfield 67, 3) := by decide +kernel
theorem d_Pai_openColours_4 : decode prog_5_method_17_code 4 = .ok (.ifCond .ne 7, 3) := by decide +kernel
theorem d_Pai_openColours_7 : decode prog_5_method_17_code 7 = .ok (.sipush 4095, 3) := by decide +kernel
theorem d_Pai_openColours_10 : decode prog_5_method_17_code 10 = .ok (.ireturn, 1) := by decide +kernel
theorem d_Pai_openColours_11 : decode prog_5_method_17_code 11 = .ok (.aload_n 0, 1) := by decide +kernel
theorem d_Pai_openColours_12 : decode prog_5_method_17_code 12 = .ok (.getfield 80, 3) := by decide +kernel
theorem d_Pai_openColours_15 : decode prog_5_method_17_code 15 = .ok (.aload_n 0, 1) := by decide +kernel
theorem d_Pai_openColours_16 : decode prog_5_method_17_code 16 = .ok (.getfield 77, 3) := by decide +kernel
theorem d_Pai_openColours_19 : decode prog_5_method_17_code 19 = .ok (.if_icmp .ge 12, 3) := by decide +kernel
theorem d_Pai_openColours_22 : decode prog_5_method_17_code 22 = .ok (.aload_n 0, 1) := by decide +kernel
theorem d_Pai_openColours_23 : decode prog_5_method_17_code 23 = .ok (.getfield 74, 3) := by decide +kernel
theorem d_Pai_openColours_26 : decode prog_5_method_17_code 26 = .ok (.iconst 1, 1) := by decide +kernel
theorem d_Pai_openColours_27 : decode prog_5_method_17_code 27 = .ok (.iadd, 1) := by decide +kernel
theorem d_Pai_openColours_28 : decode prog_5_method_17_code 28 = .ok (.goto 7, 3) := by decide +kernel
theorem d_Pai_openColours_31 : decode prog_5_method_17_code 31 = .ok (.aload_n 0, 1) := by decide +kernel
theorem d_Pai_openColours_32 : decode prog_5_method_17_code 32 = .ok (.getfield 74, 3) := by decide +kernel
theorem d_Pai_openColours_35 : decode prog_5_method_17_code 35 = .ok (.istore_n 1, 1) := by decide +kernel
theorem d_Pai_openColours_36 : decode prog_5_method_17_code 36 = .ok (.iconst 0, 1) := by decide +kernel
theorem d_Pai_openColours_37 : decode prog_5_method_17_code 37 = .ok (.istore_n 2, 1) := by decide +kernel
theorem d_Pai_openColours_38 : decode prog_5_method_17_code 38 = .ok (.iconst 0, 1) := by decide +kernel
theorem d_Pai_openColours_39 : decode prog_5_method_17_code 39 = .ok (.istore_n 3, 1) := by decide +kernel
theorem d_Pai_openColours_40 : decode prog_5_method_17_code 40 = .ok (.iload_n 3, 1) := by decide +kernel
theorem d_Pai_openColours_41 : decode prog_5_method_17_code 41 = .ok (.aload_n 0, 1) := by decide +kernel
theorem d_Pai_openColours_42 : decode prog_5_method_17_code 42 = .ok (.getfield 71, 3) := by decide +kernel
theorem d_Pai_openColours_45 : decode prog_5_method_17_code 45 = .ok (.if_icmp .ge 25, 3) := by decide +kernel
theorem d_Pai_openColours_48 : decode prog_5_method_17_code 48 = .ok (.aload_n 0, 1) := by decide +kernel
theorem d_Pai_openColours_49 : decode prog_5_method_17_code 49 = .ok (.getfield 23, 3) := by decide +kernel
theorem d_Pai_openColours_52 : decode prog_5_method_17_code 52 = .ok (.iload_n 3, 1) := by decide +kernel
theorem d_Pai_openColours_53 : decode prog_5_method_17_code 53 = .ok (.iaload, 1) := by decide +kernel
theorem d_Pai_openColours_54 : decode prog_5_method_17_code 54 = .ok (.iload_n 1, 1) := by decide +kernel
theorem d_Pai_openColours_55 : decode prog_5_method_17_code 55 = .ok (.if_icmp .ge 9, 3) := by decide +kernel
theorem d_Pai_openColours_58 : decode prog_5_method_17_code 58 = .ok (.iload_n 2, 1) := by decide +kernel
theorem d_Pai_openColours_59 : decode prog_5_method_17_code 59 = .ok (.iconst 1, 1) := by decide +kernel
theorem d_Pai_openColours_60 : decode prog_5_method_17_code 60 = .ok (.iload_n 3, 1) := by decide +kernel
theorem d_Pai_openColours_61 : decode prog_5_method_17_code 61 = .ok (.ishl, 1) := by decide +kernel
theorem d_Pai_openColours_62 : decode prog_5_method_17_code 62 = .ok (.ior, 1) := by decide +kernel
theorem d_Pai_openColours_63 : decode prog_5_method_17_code 63 = .ok (.istore_n 2, 1) := by decide +kernel
theorem d_Pai_openColours_64 : decode prog_5_method_17_code 64 = .ok (.iinc 3 1, 3) := by decide +kernel
theorem d_Pai_openColours_67 : decode prog_5_method_17_code 67 = .ok (.goto (-27), 3) := by decide +kernel
theorem d_Pai_openColours_70 : decode prog_5_method_17_code 70 = .ok (.iload_n 2, 1) := by decide +kernel
theorem d_Pai_openColours_71 : decode prog_5_method_17_code 71 = .ok (.ireturn, 1) := by decide +kernel
abbrev wd_Pai_openColours (cI cJ cG cZ : ClassId) (a0 a0_paint a0_near a0_free a0_uses : Nat) (v0_items : Int32) (v0_evenly : Int32) (v0_palette : Int32) (v0_share : Int32) (v0_bigger : Int32) (v0_bigNow : Int32) (w0_uses : Nat → Int32) : va_W := [(a0, .inr (2, [.ref a0_paint, .ref a0_near, .ref a0_free, .ref a0_uses, .int v0_items, .int v0_evenly, .int v0_palette, .int v0_share, .int v0_bigger, .int v0_bigNow])), (a0_uses, .inl (cI, 12, .inl w0_uses))]
abbrev us_Pai_openColours : List Cond := .code y_Pai_openColours prog_5_method_17_code 4 (some .int) :: gtbl
abbrev rm_Pai_openColours : Room := { frames := 0, cells := 0, slots := 0, locals := 0 }
def m_Pai_openColours (F : Nat) (v0_items : Int32) (v0_evenly : Int32) (v0_palette : Int32) (v0_share : Int32) (v0_bigger : Int32) (v0_bigNow : Int32) (w0_uses : Nat → Int32) : Option (Int32) :=
  if v0_evenly = 0 then (
    some 4095
  ) else (
    gB (α := Int32 → Option (Int32)) (fun s_2 =>
      gL (fun (k_40 : (Int32 × Int32) → Option (Int32)) (z_40 : Int32 × Int32) => match z_40 with
      | (x2_3, x3_4) =>
      if v0_palette ≤ x3_4 then (
        some x2_3
      ) else (
        gC (inb x3_4 12) (
        if s_2 ≤ (w0_uses x3_4.toNatClampNeg) then (
          gB (x3_4 + 1) (fun x3_8 =>
          k_40 (x2_3, x3_8))
        ) else (
          gB (x2_3 ||| ((1 : Int32) <<< (x3_4 &&& 31))) (fun x2_9 =>
          gB (x3_4 + 1) (fun x3_10 =>
          k_40 (x2_9, x3_10)))
        ))
      )
      ) F (0, 0)
    ) (fun J_35 =>
    if v0_bigger ≤ v0_bigNow then (
      J_35 v0_share
    ) else (
      J_35 (v0_share + 1)
    )
    )
  )
set_option maxHeartbeats 4000000 in
set_option maxRecDepth 100000 in
theorem c_Pai_openColours (l : Launch) (dC : Nat → ClassId) (dI : Nat → Nat → Nat) (cI cJ cG cZ : ClassId) (a0 a0_paint a0_near a0_free a0_uses : Nat) (sz : Nat) (F : Nat) (v0_items : Int32) (v0_evenly : Int32) (v0_palette : Int32) (v0_share : Int32) (v0_bigger : Int32) (v0_bigNow : Int32) (w0_uses : Nat → Int32) (ret : Int32) (hm : m_Pai_openColours F v0_items v0_evenly v0_palette v0_share v0_bigger v0_bigNow w0_uses = some ret) : Met l y_Pai_openColours us_Pai_openColours rm_Pai_openColours (PcS (dC, dI) (tyL cI cJ cG cZ) [.ref a0] sz (wd_Pai_openColours cI cJ cG cZ a0 a0_paint a0_near a0_free a0_uses v0_items v0_evenly v0_palette v0_share v0_bigger v0_bigNow w0_uses)) (va_Qi (fun (r : Int32) (_ : Unit) => ret = r) (fun _ t => PoS (dC, dI) (tyL cI cJ cG cZ) (wd_Pai_openColours cI cJ cG cZ a0 a0_paint a0_near a0_free a0_uses v0_items v0_evenly v0_palette v0_share v0_bigger v0_bigNow w0_uses) (va_A (wd_Pai_openColours cI cJ cG cZ a0 a0_paint a0_near a0_free a0_uses v0_items v0_evenly v0_palette v0_share v0_bigger v0_bigNow w0_uses) sz) t) (va_A (wd_Pai_openColours cI cJ cG cZ a0 a0_paint a0_near a0_free a0_uses v0_items v0_evenly v0_palette v0_share v0_bigger v0_bigNow w0_uses) sz)) 0 0 (va_A (wd_Pai_openColours cI cJ cG cZ a0 a0_paint a0_near a0_free a0_uses v0_items v0_evenly v0_palette v0_share v0_bigger v0_bigNow w0_uses) sz) := by
  refine Met.ofW (cc := prog_5_method_17_code) (maxL := 4) (ret := (some .int)) (by decide) rfl ?_
  intro p e s m args below meth c s₁ B hml hv
  obtain ⟨rfl, hsz, hP, hK, hD0, hNw⟩ := hv
  have hx := B.exec
  have hb := B.bytes
  have hr := B.returns
  have htt : ∀ w ∈ gtbl, w.before _ s = true := fun w h => atoms_spec (ws := us_Pai_openColours) B.pre w (List.mem_cons_of_mem _ h)
  have hown : s.vm.findClass R_Pai = some m.cls := findClass_of_methodNamed B.named
  have hlocks := B.notSynchronized
  subst hsz
  have hD := hD0.self (sz := s.heap.size)
  generalize hAe : va_A (wd_Pai_openColours cI cJ cG cZ a0 a0_paint a0_near a0_free a0_uses v0_items v0_evenly v0_palette v0_share v0_bigger v0_bigNow w0_uses) s.heap.size = A at hD ⊢
  have hA : ∀ q : Nat, s.heap.size ≤ q → A q := fun q h => by rw [← hAe]; exact Or.inr h
  clear hAe hD0
  have hS : va_S A s.heap s.heap [] := va_S.rf
  have hl := lv_entry ([.ref a0]) (n := 4) (Nat.le_of_ble_eq_true rfl)
  rw [lg_entry_eq]
  generalize (lg_sl ([.ref a0]) ++ List.replicate (4 - (lg_sl ([.ref a0])).length) Slot.unset).toArray = ls at hl ⊢
  have hl : lv_has ls 4 [(0, .ref a0)] := hl
  generalize hH : s.heap = H at hP ⊢
  have hS : va_S A s.heap H [] := hH ▸ hS
  generalize hLo : ([] : List Loc) = locs at hS ⊢
  clear hH hLo
  unfold m_Pai_openColours at hm
  refine lv_aload_n hx hb d_Pai_openColours_0 rfl (lv_at hl 0 rfl) ?_
  refine va_get (D := (dC, dI)) (ci := 2) (v := .int v0_evenly) (C := R_Pai) (T := T_Pai) (N := 10) hx hb htt hin_Pai hown hK hP 0 rfl rfl 5 (by decide) (htt _ kt_87) (fun _ h9 => h9) rfl d_Pai_openColours_1 ?_
  refine lv_if_ne (tgt := 11) hx hb d_Pai_openColours_4 (by decide) (fun c_1 => ?_) (fun c_1 => ?_)
  · have hm := ite_f c_1 hm
    refine lv_aload_n hx hb d_Pai_openColours_11 rfl (lv_at hl 0 rfl) ?_
    refine va_get (D := (dC, dI)) (ci := 2) (v := .int v0_bigNow) (C := R_Pai) (T := T_Pai) (N := 10) hx hb htt hin_Pai hown hK hP 0 rfl rfl 9 (by decide) (htt _ kt_91) (fun _ h9 => h9) rfl d_Pai_openColours_12 ?_
    refine lv_aload_n hx hb d_Pai_openColours_15 rfl (lv_at hl 0 rfl) ?_
    refine va_get (D := (dC, dI)) (ci := 2) (v := .int v0_bigger) (C := R_Pai) (T := T_Pai) (N := 10) hx hb htt hin_Pai hown hK hP 0 rfl rfl 8 (by decide) (htt _ kt_90) (fun _ h9 => h9) rfl d_Pai_openColours_16 ?_
    obtain ⟨J_35, hJ_35, hm⟩ := gB_x hm
    have jp_35 : ∀ (s_2 : Int32) (ls : Array Slot) (H : Heap) (locs : List Loc), J_35 s_2 = some ret → lv_has ls 4 [(0, .ref a0)] → va_P (dC, dI) vwCl (wd_Pai_openColours cI cJ cG cZ a0 a0_paint a0_near a0_free a0_uses v0_items v0_evenly v0_palette v0_share v0_bigger v0_bigNow w0_uses) H → va_D A (wd_Pai_openColours cI cJ cG cZ a0 a0_paint a0_near a0_free a0_uses v0_items v0_evenly v0_palette v0_share v0_bigger v0_bigNow w0_uses) → va_S A s.heap H locs → W p l e (headSpec us_Pai_openColours rm_Pai_openColours).room s m ([.ref a0] : List Value).toArray below meth c H locs 0 0 (MQ below (va_Qi (fun (r : Int32) (_ : Unit) => ret = r) (fun _ t => PoS (dC, dI) (tyL cI cJ cG cZ) (wd_Pai_openColours cI cJ cG cZ a0 a0_paint a0_near a0_free a0_uses v0_items v0_evenly v0_palette v0_share v0_bigger v0_bigNow w0_uses) A t) A) ([.ref a0] : List Value).toArray s 0 0 A) (F0 m 35 ls [.int s_2]) := by
      intro s_2 ls H locs hm hl hP hD hS
      have hm := jn1 hJ_35 hm
      refine lv_istore_n (lv' := [(1, .int s_2), (0, .ref a0)]) hx hb d_Pai_openColours_35 rfl hl (by decide) rfl (fun ls hl => ?_)
      refine lv_iconst (v := 0) hx hb d_Pai_openColours_36 (by decide) ?_
      refine lv_istore_n (lv' := [(2, .int 0), (1, .int s_2), (0, .ref a0)]) hx hb d_Pai_openColours_37 rfl hl (by decide) rfl (fun ls hl => ?_)
      refine lv_iconst (v := 0) hx hb d_Pai_openColours_38 (by decide) ?_
      refine lv_istore_n (lv' := [(3, .int 0), (2, .int 0), (1, .int s_2), (0, .ref a0)]) hx hb d_Pai_openColours_39 rfl hl (by decide) rfl (fun ls hl => ?_)
      refine gL_e (P := (fun (z_40 : Int32 × Int32) => ∀ (x2_3 : Int32), ∀ (x3_4 : Int32), z_40 = (x2_3, x3_4) → ∀ (ls : Array Slot) (H : Heap) (locs : List Loc), lv_has ls 4 [(0, .ref a0), (1, .int s_2), (2, .int x2_3), (3, .int x3_4)] → va_P (dC, dI) vwCl (wd_Pai_openColours cI cJ cG cZ a0 a0_paint a0_near a0_free a0_uses v0_items v0_evenly v0_palette v0_share v0_bigger v0_bigNow w0_uses) H → va_D A (wd_Pai_openColours cI cJ cG cZ a0 a0_paint a0_near a0_free a0_uses v0_items v0_evenly v0_palette v0_share v0_bigger v0_bigNow w0_uses) → va_S A s.heap H locs → W p l e (headSpec us_Pai_openColours rm_Pai_openColours).room s m ([.ref a0] : List Value).toArray below meth c H locs 0 0 (MQ below (va_Qi (fun (r : Int32) (_ : Unit) => ret = r) (fun _ t => PoS (dC, dI) (tyL cI cJ cG cZ) (wd_Pai_openColours cI cJ cG cZ a0 a0_paint a0_near a0_free a0_uses v0_items v0_evenly v0_palette v0_share v0_bigger v0_bigNow w0_uses) A t) A) ([.ref a0] : List Value).toArray s 0 0 A) (F0 m 40 ls []))) hm (fun k_40 z_40 ih_40 hm => ?_) _ _ rfl ls H locs (lv_sub hl [3, 2, 1, 0] rfl) hP hD hS
      intro x2_3 x3_4 hz ls H locs hl hP hD hS
      subst hz
      dsimp only at hm
      refine lv_iload_n hx hb d_Pai_openColours_40 rfl (lv_at hl 3 rfl) ?_
      refine lv_aload_n hx hb d_Pai_openColours_41 rfl (lv_at hl 0 rfl) ?_
      refine va_get (D := (dC, dI)) (ci := 2) (v := .int v0_palette) (C := R_Pai) (T := T_Pai) (N := 10) hx hb htt hin_Pai hown hK hP 0 rfl rfl 6 (by decide) (htt _ kt_88) (fun _ h9 => h9) rfl d_Pai_openColours_42 ?_
      refine lv_icmp_ge (tgt := 70) hx hb d_Pai_openColours_45 (by decide) (fun c_5 => ?_) (fun c_5 => ?_)
      · have hm := ite_t c_5 hm
        refine lv_iload_n hx hb d_Pai_openColours_70 rfl (lv_at hl 2 rfl) ?_
        cases hm
        exact W.iret hx hb hr (fun t ht hW => ⟨⟨_, (), rfl, rfl, by rw [ht]; exact hP, va_K.moved hW.alike hK, hD⟩, hS.F ht⟩) hS.2.2 d_Pai_openColours_71
      · have hm := ite_f c_5 hm
        refine lv_aload_n hx hb d_Pai_openColours_48 rfl (lv_at hl 0 rfl) ?_
        refine va_get (D := (dC, dI)) (ci := 2) (v := .ref a0_uses) (C := R_Pai) (T := T_Pai) (N := 10) hx hb htt hin_Pai hown hK hP 0 rfl rfl 3 (by decide) (htt _ kt_85) (fun _ h9 => h9) rfl d_Pai_openColours_49 ?_
        refine lv_iload_n hx hb d_Pai_openColours_52 rfl (lv_at hl 3 rfl) ?_
        obtain ⟨hi_6, hm⟩ := gC_e hm
        refine va_iald hx hb hK hP 1 0 rfl rfl (inb_vp hi_6) d_Pai_openColours_53 ?_
        refine lv_iload_n hx hb d_Pai_openColours_54 rfl (lv_at hl 1 rfl) ?_
        refine lv_icmp_ge (tgt := 64) hx hb d_Pai_openColours_55 (by decide) (fun c_7 => ?_) (fun c_7 => ?_)
        · have hm := ite_t c_7 hm
          obtain ⟨x3_8, ex3_8⟩ : ∃ y : Int32, y = x3_4 + 1 := ⟨_, rfl⟩
          have hm := gB_at ex3_8 hm
          refine lv_iinc (v := x3_8) (lv' := [(3, .int x3_8), (0, .ref a0), (1, .int s_2), (2, .int x2_3)]) hx hb d_Pai_openColours_64 hl (k := 3) rfl (by rw [ex3_8]; rfl) (by decide) rfl (fun ls hl => ?_)
          refine lv_goto (tgt := 40) hx hb d_Pai_openColours_67 (by decide) ?_
          exact ih_40 _ hm _ _ rfl ls H locs (lv_sub hl [1, 2, 3, 0] rfl) hP hD hS
        · have hm := ite_f c_7 hm
          refine lv_iload_n hx hb d_Pai_openColours_58 rfl (lv_at hl 2 rfl) ?_
          refine lv_iconst (v := 1) hx hb d_Pai_openColours_59 (by decide) ?_
          refine lv_iload_n hx hb d_Pai_openColours_60 rfl (lv_at hl 3 rfl) ?_
          refine lv_ishl hx hb d_Pai_openColours_61 ?_
          refine lv_ior hx hb d_Pai_openColours_62 ?_
          refine lv_topi (fun x2_9 ex2_9 => ?_)
          have hm := gB_at ex2_9 hm
          refine lv_istore_n (lv' := [(2, .int x2_9), (0, .ref a0), (1, .int s_2), (3, .int x3_4)]) hx hb d_Pai_openColours_63 rfl hl (by decide) rfl (fun ls hl => ?_)
          obtain ⟨x3_10, ex3_10⟩ : ∃ y : Int32, y = x3_4 + 1 := ⟨_, rfl⟩
          have hm := gB_at ex3_10 hm
          refine lv_iinc (v := x3_10) (lv' := [(3, .int x3_10), (2, .int x2_9), (0, .ref a0), (1, .int s_2)]) hx hb d_Pai_openColours_64 hl (k := 3) rfl (by rw [ex3_10]; rfl) (by decide) rfl (fun ls hl => ?_)
          refine lv_goto (tgt := 40) hx hb d_Pai_openColours_67 (by decide) ?_
          exact ih_40 _ hm _ _ rfl ls H locs (lv_sub hl [2, 3, 1, 0] rfl) hP hD hS
    clear hJ_35
    refine lv_icmp_ge (tgt := 31) hx hb d_Pai_openColours_19 (by decide) (fun c_11 => ?_) (fun c_11 => ?_)
    · have hm := ite_t c_11 hm
      refine lv_aload_n hx hb d_Pai_openColours_31 rfl (lv_at hl 0 rfl) ?_
      refine va_get (D := (dC, dI)) (ci := 2) (v := .int v0_share) (C := R_Pai) (T := T_Pai) (N := 10) hx hb htt hin_Pai hown hK hP 0 rfl rfl 7 (by decide) (htt _ kt_89) (fun _ h9 => h9) rfl d_Pai_openColours_32 ?_
      exact jp_35 _ ls H locs hm (lv_sub hl [0] rfl) hP hD hS
    · have hm := ite_f c_11 hm
      refine lv_aload_n hx hb d_Pai_openColours_22 rfl (lv_at hl 0 rfl) ?_
      refine va_get (D := (dC, dI)) (ci := 2) (v := .int v0_share) (C := R_Pai) (T := T_Pai) (N := 10) hx hb htt hin_Pai hown hK hP 0 rfl rfl 7 (by decide) (htt _ kt_89) (fun _ h9 => h9) rfl d_Pai_openColours_23 ?_
      refine lv_iconst (v := 1) hx hb d_Pai_openColours_26 (by decide) ?_
      refine lv_iadd hx hb d_Pai_openColours_27 ?_
      refine lv_goto (tgt := 35) hx hb d_Pai_openColours_28 (by decide) ?_
      exact jp_35 _ ls H locs hm (lv_sub hl [0] rfl) hP hD hS
  · have hm := ite_t c_1 hm
    refine lv_sipush (v := 4095) hx hb d_Pai_openColours_7 (by decide) ?_
    cases hm
    exact W.iret hx hb hr (fun t ht hW => ⟨⟨_, (), rfl, rfl, by rw [ht]; exact hP, va_K.moved hW.alike hK, hD⟩, hS.F ht⟩) hS.2.2 d_Pai_openColours_10
theorem d_Pai_tightest_0 : decode prog_5_method_12_code 0 = .ok (.iconst 0, 1) := by decide +kernel
theorem d_Pai_tightest_1 : decode prog_5_method_12_code 1 = .ok (.istore 4, 2) := by decide +kernel
theorem d_Pai_tightest_3 : decode prog_5_method_12_code 3 = .ok (.ldc 123, 2) := by decide +kernel
theorem d_Pai_tightest_5 : decode prog_5_method_12_code 5 = .ok (.istore 5, 2) := by decide +kernel
theorem d_Pai_tightest_7 : decode prog_5_method_12_code 7 = .ok (.iconst 0, 1) := by decide +kernel
theorem d_Pai_tightest_8 : decode prog_5_method_12_code 8 = .ok (.istore 6, 2) := by decide +kernel
theorem d_Pai_tightest_10 : decode prog_5_method_12_code 10 = .ok (.iload 6, 2) := by decide +kernel
theorem d_Pai_tightest_12 : decode prog_5_method_12_code 12 = .ok (.aload_n 0, 1) := by decide +kernel
theorem d_Pai_tightest_13 : decode prog_5_method_12_code 13 = .ok (.getfield 58, 3) := by decide +kernel
theorem d_Pai_tightest_16 : decode prog_5_method_12_code 16 = .ok (.if_icmp .ge 65, 3) := by decide +kernel
theorem d_Pai_tightest_19 : decode prog_5_method_12_code 19 = .ok (.iload_n 2, 1) := by decide +kernel
theorem d_Pai_tightest_20 : decode prog_5_method_12_code 20 = .ok (.iload 6, 2) := by decide +kernel
theorem d_Pai_tightest_22 : decode prog_5_method_12_code 22 = .ok (.ishr, 1) := by decide +kernel
theorem d_Pai_tightest_23 : decode prog_5_method_12_code 23 = .ok (.iconst 1, 1) := by decide +kernel
theorem d_Pai_tightest_24 : decode prog_5_method_12_code 24 = .ok (.iand, 1) := by decide +kernel
theorem d_Pai_tightest_25 : decode prog_5_method_12_code 25 = .ok (.ifCond .eq 50, 3) := by decide +kernel
theorem d_Pai_tightest_28 : decode prog_5_method_12_code 28 = .ok (.aload_n 0, 1) := by decide +kernel
theorem d_Pai_tightest_29 : decode prog_5_method_12_code 29 = .ok (.getfield 20, 3) := by decide +kernel
theorem d_Pai_tightest_32 : decode prog_5_method_12_code 32 = .ok (.iload_n 1, 1) := by decide +kernel
theorem d_Pai_tightest_33 : decode prog_5_method_12_code 33 = .ok (.aaload, 1) := by decide +kernel
theorem d_Pai_tightest_34 : decode prog_5_method_12_code 34 = .ok (.iload 6, 2) := by decide +kernel
theorem d_Pai_tightest_36 : decode prog_5_method_12_code 36 = .ok (.iaload, 1) := by decide +kernel
theorem d_Pai_tightest_37 : decode prog_5_method_12_code 37 = .ok (.iload_n 3, 1) := by decide +kernel
theorem d_Pai_tightest_38 : decode prog_5_method_12_code 38 = .ok (.iand, 1) := by decide +kernel
theorem d_Pai_tightest_39 : decode prog_5_method_12_code 39 = .ok (.invokestatic 117, 3) := by decide +kernel
theorem d_Pai_tightest_42 : decode prog_5_method_12_code 42 = .ok (.bipush 17, 2) := by decide +kernel
theorem d_Pai_tightest_44 : decode prog_5_method_12_code 44 = .ok (.imul, 1) := by decide +kernel
theorem d_Pai_tightest_45 : decode prog_5_method_12_code 45 = .ok (.aload_n 0, 1) := by decide +kernel
theorem d_Pai_tightest_46 : decode prog_5_method_12_code 46 = .ok (.getfield 15, 3) := by decide +kernel
theorem d_Pai_tightest_49 : decode prog_5_method_12_code 49 = .ok (.iload 6, 2) := by decide +kernel
theorem d_Pai_tightest_51 : decode prog_5_method_12_code 51 = .ok (.iaload, 1) := by decide +kernel
theorem d_Pai_tightest_52 : decode prog_5_method_12_code 52 = .ok (.iload_n 2, 1) := by decide +kernel
theorem d_Pai_tightest_53 : decode prog_5_method_12_code 53 = .ok (.iand, 1) := by decide +kernel
theorem d_Pai_tightest_54 : decode prog_5_method_12_code 54 = .ok (.invokestatic 117, 3) := by decide +kernel
theorem d_Pai_tightest_57 : decode prog_5_method_12_code 57 = .ok (.isub, 1) := by decide +kernel
theorem d_Pai_tightest_58 : decode prog_5_method_12_code 58 = .ok (.istore 7, 2) := by decide +kernel
theorem d_Pai_tightest_60 : decode prog_5_method_12_code 60 = .ok (.iload 7, 2) := by decide +kernel
theorem d_Pai_tightest_62 : decode prog_5_method_12_code 62 = .ok (.iload 5, 2) := by decide +kernel
theorem d_Pai_tightest_64 : decode prog_5_method_12_code 64 = .ok (.if_icmp .ge 11, 3) := by decide +kernel
theorem d_Pai_tightest_67 : decode prog_5_method_12_code 67 = .ok (.iload 6, 2) := by decide +kernel
theorem d_Pai_tightest_69 : decode prog_5_method_12_code 69 = .ok (.istore 4, 2) := by decide +kernel
theorem d_Pai_tightest_71 : decode prog_5_method_12_code 71 = .ok (.iload 7, 2) := by decide +kernel
theorem d_Pai_tightest_73 : decode prog_5_method_12_code 73 = .ok (.istore 5, 2) := by decide +kernel
theorem d_Pai_tightest_75 : decode prog_5_method_12_code 75 = .ok (.iinc 6 1, 3) := by decide +kernel
theorem d_Pai_tightest_78 : decode prog_5_method_12_code 78 = .ok (.goto (-68), 3) := by decide +kernel
theorem d_Pai_tightest_81 : decode prog_5_method_12_code 81 = .ok (.iload 4, 2) := by decide +kernel
theorem d_Pai_tightest_83 : decode prog_5_method_12_code 83 = .ok (.ireturn, 1) := by decide +kernel
abbrev wd_Pai_tightest (cI cJ cG cZ : ClassId) (a0 a0_paint a0_near a0_free a0_uses : Nat) (r0_free : Nat → Nat) (v0_items : Int32) (v0_evenly : Int32) (v0_palette : Int32) (v0_share : Int32) (v0_bigger : Int32) (v0_bigNow : Int32) (w0_near : Nat → Int32) (w0_free : Nat → Nat → Int32) : va_W := [(a0, .inr (2, [.ref a0_paint, .ref a0_near, .ref a0_free, .ref a0_uses, .int v0_items, .int v0_evenly, .int v0_palette, .int v0_share, .int v0_bigger, .int v0_bigNow])), (a0_near, .inl (cI, 16, .inl w0_near)), (a0_free, .inl (cG, 18, .inr (.inr (.inr (.inr (gO r0_free 18))))))] ++ rowsW r0_free cI 16 18 w0_free
abbrev we_Pai_tightest (cI cJ cG cZ : ClassId) (a0 a0_paint a0_near a0_free a0_uses : Nat) (r0_free : Nat → Nat) (v0_items : Int32) (v0_evenly : Int32) (v0_palette : Int32) (v0_share : Int32) (v0_bigger : Int32) (v0_bigNow : Int32) (w0_near : Nat → Int32) (w0_free : Nat → Nat → Int32) : va_W := [(a0, .inr (2, [.ref a0_paint, .ref a0_near, .ref a0_free, .ref a0_uses, .int v0_items, .int v0_evenly, .int v0_palette, .int v0_share, .int v0_bigger, .int v0_bigNow])), (a0_near, .inl (cI, 16, .inl w0_near)), (a0_free, .inl (cG, 18, .inr (.inr (.inr (.inr (gO r0_free 18))))))]
abbrev us_Pai_tightest : List Cond := .code y_Pai_tightest prog_5_method_12_code 8 (some .int) :: gtbl
abbrev rm_Pai_tightest : Room := { frames := 1, cells := 0, slots := 0, locals := 20 }
def m_Pai_tightest (F : Nat) (v0_items : Int32) (v0_evenly : Int32) (v0_palette : Int32) (v0_share : Int32) (v0_bigger : Int32) (v0_bigNow : Int32) (w0_near : Nat → Int32) (w0_free : Nat → Nat → Int32) (p1 : Int32) (p2 : Int32) (p3 : Int32) : Option (Int32) :=
  gL (fun (k_10 : (Int32 × Int32 × Int32) → Option (Int32)) (z_10 : Int32 × Int32 × Int32) => match z_10 with
  | (x4_1, x5_2, x6_3) =>
  if v0_items ≤ x6_3 then (
    some x4_1
  ) else (
    if ((p2 >>> (x6_3 &&& 31)) &&& 1) = 0 then (
      gB (x6_3 + 1) (fun x6_6 =>
      k_10 (x4_1, x5_2, x6_6))
    ) else (
      gC (inb p1 18) (
      gC (inb x6_3 16) (
      gC (inb x6_3 16) (
      gB (((bitc ((w0_free p1.toNatClampNeg x6_3.toNatClampNeg) &&& p3)) * 17) - (bitc ((w0_near x6_3.toNatClampNeg) &&& p2))) (fun x7_11 =>
      if x5_2 ≤ x7_11 then (
        gB (x6_3 + 1) (fun x6_13 =>
        k_10 (x4_1, x5_2, x6_13))
      ) else (
        gB (x6_3 + 1) (fun x6_14 =>
        k_10 (x6_3, x7_11, x6_14))
      )))))
    )
  )
  ) F (0, 2147483647, 0)
set_option maxHeartbeats 4000000 in
set_option maxRecDepth 100000 in
theorem c_Pai_tightest (l : Launch) (dC : Nat → ClassId) (dI : Nat → Nat → Nat) (cI cJ cG cZ : ClassId) (a0 a0_paint a0_near a0_free a0_uses : Nat) (r0_free : Nat → Nat) (sz : Nat) (F : Nat) (v0_items : Int32) (v0_evenly : Int32) (v0_palette : Int32) (v0_share : Int32) (v0_bigger : Int32) (v0_bigNow : Int32) (w0_near : Nat → Int32) (w0_free : Nat → Nat → Int32) (p1 : Int32) (p2 : Int32) (p3 : Int32) (ret : Int32) (hm : m_Pai_tightest F v0_items v0_evenly v0_palette v0_share v0_bigger v0_bigNow w0_near w0_free p1 p2 p3 = some ret) : Met l y_Pai_tightest us_Pai_tightest rm_Pai_tightest (PcS (dC, dI) (tyL cI cJ cG cZ) [.ref a0, .int p1, .int p2, .int p3] sz (wd_Pai_tightest cI cJ cG cZ a0 a0_paint a0_near a0_free a0_uses r0_free v0_items v0_evenly v0_palette v0_share v0_bigger v0_bigNow w0_near w0_free)) (va_Qi (fun (r : Int32) (_ : Unit) => ret = r) (fun _ t => PoS (dC, dI) (tyL cI cJ cG cZ) (wd_Pai_tightest cI cJ cG cZ a0 a0_paint a0_near a0_free a0_uses r0_free v0_items v0_evenly v0_palette v0_share v0_bigger v0_bigNow w0_near w0_free) (va_A (wd_Pai_tightest cI cJ cG cZ a0 a0_paint a0_near a0_free a0_uses r0_free v0_items v0_evenly v0_palette v0_share v0_bigger v0_bigNow w0_near w0_free) sz) t) (va_A (wd_Pai_tightest cI cJ cG cZ a0 a0_paint a0_near a0_free a0_uses r0_free v0_items v0_evenly v0_palette v0_share v0_bigger v0_bigNow w0_near w0_free) sz)) 0 0 (va_A (wd_Pai_tightest cI cJ cG cZ a0 a0_paint a0_near a0_free a0_uses r0_free v0_items v0_evenly v0_palette v0_share v0_bigger v0_bigNow w0_near w0_free) sz) := by
  refine Met.ofW (cc := prog_5_method_12_code) (maxL := 8) (ret := (some .int)) (by decide) rfl ?_
  intro p e s m args below meth c s₁ B hml hv
  obtain ⟨rfl, hsz, hP, hK, hD0, hNw⟩ := hv
  have hx := B.exec
  have hb := B.bytes
  have hr := B.returns
  have htt : ∀ w ∈ gtbl, w.before _ s = true := fun w h => atoms_spec (ws := us_Pai_tightest) B.pre w (List.mem_cons_of_mem _ h)
  have hown : s.vm.findClass R_Pai = some m.cls := findClass_of_methodNamed B.named
  have hlocks := B.notSynchronized
  subst hsz
  have hD := hD0.self (sz := s.heap.size)
  generalize hAe : va_A (wd_Pai_tightest cI cJ cG cZ a0 a0_paint a0_near a0_free a0_uses r0_free v0_items v0_evenly v0_palette v0_share v0_bigger v0_bigNow w0_near w0_free) s.heap.size = A at hD ⊢
  have hA : ∀ q : Nat, s.heap.size ≤ q → A q := fun q h => by rw [← hAe]; exact Or.inr h
  clear hAe hD0
  have hS : va_S A s.heap s.heap [] := va_S.rf
  have hl := lv_entry ([.ref a0, .int p1, .int p2, .int p3]) (n := 8) (Nat.le_of_ble_eq_true rfl)
  rw [lg_entry_eq]
  generalize (lg_sl ([.ref a0, .int p1, .int p2, .int p3]) ++ List.replicate (8 - (lg_sl ([.ref a0, .int p1, .int p2, .int p3])).length) Slot.unset).toArray = ls at hl ⊢
  have hl : lv_has ls 8 [(0, .ref a0), (1, .int p1), (2, .int p2), (3, .int p3)] := hl
  generalize hH : s.heap = H at hP ⊢
  have hS : va_S A s.heap H [] := hH ▸ hS
  generalize hLo : ([] : List Loc) = locs at hS ⊢
  clear hH hLo
  unfold m_Pai_tightest at hm
  refine lv_iconst (v := 0) hx hb d_Pai_tightest_0 (by decide) ?_
  refine lv_istore (lv' := [(4, .int 0), (0, .ref a0), (1, .int p1), (2, .int p2), (3, .int p3)]) hx hb d_Pai_tightest_1 hl (by decide) rfl (fun ls hl => ?_)
  refine lv_ldc (own := R_Pai) (v := 2147483647) hx hb hown (htt _ kt_336) d_Pai_tightest_3 ?_
  refine lv_istore (lv' := [(5, .int 2147483647), (4, .int 0), (0, .ref a0), (1, .int p1), (2, .int p2), (3, .int p3)]) hx hb d_Pai_tightest_5 hl (by decide) rfl (fun ls hl => ?_)
  refine lv_iconst (v := 0) hx hb d_Pai_tightest_7 (by decide) ?_
  refine lv_istore (lv' := [(6, .int 0), (5, .int 2147483647), (4, .int 0), (0, .ref a0), (1, .int p1), (2, .int p2), (3, .int p3)]) hx hb d_Pai_tightest_8 hl (by decide) rfl (fun ls hl => ?_)
  refine gL_e (P := (fun (z_10 : Int32 × Int32 × Int32) => ∀ (x4_1 : Int32), ∀ (x5_2 : Int32), ∀ (x6_3 : Int32), z_10 = (x4_1, x5_2, x6_3) → ∀ (ls : Array Slot) (H : Heap) (locs : List Loc), lv_has ls 8 [(0, .ref a0), (1, .int p1), (2, .int p2), (3, .int p3), (4, .int x4_1), (5, .int x5_2), (6, .int x6_3)] → va_P (dC, dI) vwCl (wd_Pai_tightest cI cJ cG cZ a0 a0_paint a0_near a0_free a0_uses r0_free v0_items v0_evenly v0_palette v0_share v0_bigger v0_bigNow w0_near w0_free) H → va_D A (wd_Pai_tightest cI cJ cG cZ a0 a0_paint a0_near a0_free a0_uses r0_free v0_items v0_evenly v0_palette v0_share v0_bigger v0_bigNow w0_near w0_free) → va_S A s.heap H locs → W p l e (headSpec us_Pai_tightest rm_Pai_tightest).room s m ([.ref a0, .int p1, .int p2, .int p3] : List Value).toArray below meth c H locs 0 0 (MQ below (va_Qi (fun (r : Int32) (_ : Unit) => ret = r) (fun _ t => PoS (dC, dI) (tyL cI cJ cG cZ) (wd_Pai_tightest cI cJ cG cZ a0 a0_paint a0_near a0_free a0_uses r0_free v0_items v0_evenly v0_palette v0_share v0_bigger v0_bigNow w0_near w0_free) A t) A) ([.ref a0, .int p1, .int p2, .int p3] : List Value).toArray s 0 0 A) (F0 m 10 ls []))) hm (fun k_10 z_10 ih_10 hm => ?_) _ _ _ rfl ls H locs (lv_sub hl [3, 4, 5, 6, 2, 1, 0] rfl) hP hD hS
  intro x4_1 x5_2 x6_3 hz ls H locs hl hP hD hS
  subst hz
  dsimp only at hm
  refine lv_iload hx hb d_Pai_tightest_10 (lv_at hl 6 rfl) ?_
  refine lv_aload_n hx hb d_Pai_tightest_12 rfl (lv_at hl 0 rfl) ?_
  refine va_get (D := (dC, dI)) (ci := 2) (v := .int v0_items) (C := R_Pai) (T := T_Pai) (N := 10) hx hb htt hin_Pai hown hK hP 0 rfl rfl 4 (by decide) (htt _ kt_86) (fun _ h9 => h9) rfl d_Pai_tightest_13 ?_
  refine lv_icmp_ge (tgt := 81) hx hb d_Pai_tightest_16 (by decide) (fun c_4 => ?_) (fun c_4 => ?_)
  · have hm := ite_t c_4 hm
    refine lv_iload hx hb d_Pai_tightest_81 (lv_at hl 4 rfl) ?_
    cases hm
    exact W.iret hx hb hr (fun t ht hW => ⟨⟨_, (), rfl, rfl, by rw [ht]; exact hP, va_K.moved hW.alike hK, hD⟩, hS.F ht⟩) hS.2.2 d_Pai_tightest_83
  · have hm := ite_f c_4 hm
    refine lv_iload_n hx hb d_Pai_tightest_19 rfl (lv_at hl 2 rfl) ?_
    refine lv_iload hx hb d_Pai_tightest_20 (lv_at hl 6 rfl) ?_
    refine lv_ishr hx hb d_Pai_tightest_22 ?_
    refine lv_iconst (v := 1) hx hb d_Pai_tightest_23 (by decide) ?_
    refine lv_iand hx hb d_Pai_tightest_24 ?_
    refine lv_if_eq (tgt := 75) hx hb d_Pai_tightest_25 (by decide) (fun c_5 => ?_) (fun c_5 => ?_)
    · have hm := ite_t c_5 hm
      obtain ⟨x6_6, ex6_6⟩ : ∃ y : Int32, y = x6_3 + 1 := ⟨_, rfl⟩
      have hm := gB_at ex6_6 hm
      refine lv_iinc (v := x6_6) (lv' := [(6, .int x6_6), (0, .ref a0), (1, .int p1), (2, .int p2), (3, .int p3), (4, .int x4_1), (5, .int x5_2)]) hx hb d_Pai_tightest_75 hl (k := 6) rfl (by rw [ex6_6]; rfl) (by decide) rfl (fun ls hl => ?_)
      refine lv_goto (tgt := 10) hx hb d_Pai_tightest_78 (by decide) ?_
      exact ih_10 _ hm _ _ _ rfl ls H locs (lv_sub hl [1, 2, 3, 4, 5, 6, 0] rfl) hP hD hS
    · have hm := ite_f c_5 hm
      refine lv_aload_n hx hb d_Pai_tightest_28 rfl (lv_at hl 0 rfl) ?_
      refine va_get (D := (dC, dI)) (ci := 2) (v := .ref a0_free) (C := R_Pai) (T := T_Pai) (N := 10) hx hb htt hin_Pai hown hK hP 0 rfl rfl 2 (by decide) (htt _ kt_84) (fun _ h9 => h9) rfl d_Pai_tightest_29 ?_
      refine lv_iload_n hx hb d_Pai_tightest_32 rfl (lv_at hl 1 rfl) ?_
      obtain ⟨hi_7, hm⟩ := gC_e hm
      have hj_8 := inb_lt hi_7
      refine gx_ald hx hb hK hP 2 2 rfl rfl (inb_vp hi_7) d_Pai_tightest_33 ?_
      refine lv_iload hx hb d_Pai_tightest_34 (lv_at hl 6 rfl) ?_
      obtain ⟨hi_9, hm⟩ := gC_e hm
      refine va_iald hx hb hK hP (3 + p1.toNatClampNeg) 0 (rows_get rfl hj_8) rfl (inb_vp hi_9) d_Pai_tightest_36 ?_
      refine lv_iload_n hx hb d_Pai_tightest_37 rfl (lv_at hl 3 rfl) ?_
      refine lv_iand hx hb d_Pai_tightest_38 ?_
      refine gx_bit hx hb hml hown htt kt_322 hK hNw hP hD hS hA hl.1 (lv_room (Nat.le_of_ble_eq_true rfl)) (Nat.le_of_ble_eq_true rfl) (Nat.le_of_ble_eq_true rfl) (Nat.zero_le _) (Nat.zero_le _) d_Pai_tightest_39 (fun H locs hP hD hS => ?_)
      refine lv_bipush (v := 17) hx hb d_Pai_tightest_42 (by decide) ?_
      refine lv_imul hx hb d_Pai_tightest_44 ?_
      refine lv_aload_n hx hb d_Pai_tightest_45 rfl (lv_at hl 0 rfl) ?_
      refine va_get (D := (dC, dI)) (ci := 2) (v := .ref a0_near) (C := R_Pai) (T := T_Pai) (N := 10) hx hb htt hin_Pai hown hK hP 0 rfl rfl 1 (by decide) (htt _ kt_83) (fun _ h9 => h9) rfl d_Pai_tightest_46 ?_
      refine lv_iload hx hb d_Pai_tightest_49 (lv_at hl 6 rfl) ?_
      obtain ⟨hi_10, hm⟩ := gC_e hm
      refine va_iald hx hb hK hP 1 0 rfl rfl (inb_vp hi_10) d_Pai_tightest_51 ?_
      refine lv_iload_n hx hb d_Pai_tightest_52 rfl (lv_at hl 2 rfl) ?_
      refine lv_iand hx hb d_Pai_tightest_53 ?_
      refine gx_bit hx hb hml hown htt kt_322 hK hNw hP hD hS hA hl.1 (lv_room (Nat.le_of_ble_eq_true rfl)) (Nat.le_of_ble_eq_true rfl) (Nat.le_of_ble_eq_true rfl) (Nat.zero_le _) (Nat.zero_le _) d_Pai_tightest_54 (fun H locs hP hD hS => ?_)
      refine lv_isub hx hb d_Pai_tightest_57 ?_
      refine lv_topi (fun x7_11 ex7_11 => ?_)
      have hm := gB_at ex7_11 hm
      refine lv_istore (lv' := [(7, .int x7_11), (0, .ref a0), (1, .int p1), (2, .int p2), (3, .int p3), (4, .int x4_1), (5, .int x5_2), (6, .int x6_3)]) hx hb d_Pai_tightest_58 hl (by decide) rfl (fun ls hl => ?_)
      refine lv_iload hx hb d_Pai_tightest_60 (lv_at hl 0 rfl) ?_
      refine lv_iload hx hb d_Pai_tightest_62 (lv_at hl 6 rfl) ?_
      refine lv_icmp_ge (tgt := 75) hx hb d_Pai_tightest_64 (by decide) (fun c_12 => ?_) (fun c_12 => ?_)
      · have hm := ite_t c_12 hm
        obtain ⟨x6_13, ex6_13⟩ : ∃ y : Int32, y = x6_3 + 1 := ⟨_, rfl⟩
        have hm := gB_at ex6_13 hm
        refine lv_iinc (v := x6_13) (lv' := [(6, .int x6_13), (7, .int x7_11), (0, .ref a0), (1, .int p1), (2, .int p2), (3, .int p3), (4, .int x4_1), (5, .int x5_2)]) hx hb d_Pai_tightest_75 hl (k := 7) rfl (by rw [ex6_13]; rfl) (by decide) rfl (fun ls hl => ?_)
        refine lv_goto (tgt := 10) hx hb d_Pai_tightest_78 (by decide) ?_
        exact ih_10 _ hm _ _ _ rfl ls H locs (lv_sub hl [2, 3, 4, 5, 6, 7, 0] rfl) hP hD hS
      · have hm := ite_f c_12 hm
        refine lv_iload hx hb d_Pai_tightest_67 (lv_at hl 7 rfl) ?_
        refine lv_istore (lv' := [(4, .int x6_3), (7, .int x7_11), (0, .ref a0), (1, .int p1), (2, .int p2), (3, .int p3), (5, .int x5_2), (6, .int x6_3)]) hx hb d_Pai_tightest_69 hl (by decide) rfl (fun ls hl => ?_)
        refine lv_iload hx hb d_Pai_tightest_71 (lv_at hl 1 rfl) ?_
        refine lv_istore (lv' := [(5, .int x7_11), (4, .int x6_3), (7, .int x7_11), (0, .ref a0), (1, .int p1), (2, .int p2), (3, .int p3), (6, .int x6_3)]) hx hb d_Pai_tightest_73 hl (by decide) rfl (fun ls hl => ?_)
        obtain ⟨x6_14, ex6_14⟩ : ∃ y : Int32, y = x6_3 + 1 := ⟨_, rfl⟩
        have hm := gB_at ex6_14 hm
        refine lv_iinc (v := x6_14) (lv' := [(6, .int x6_14), (5, .int x7_11), (4, .int x6_3), (7, .int x7_11), (0, .ref a0), (1, .int p1), (2, .int p2), (3, .int p3)]) hx hb d_Pai_tightest_75 hl (k := 7) rfl (by rw [ex6_14]; rfl) (by decide) rfl (fun ls hl => ?_)
        refine lv_goto (tgt := 10) hx hb d_Pai_tightest_78 (by decide) ?_
        exact ih_10 _ hm _ _ _ rfl ls H locs (lv_sub hl [4, 5, 6, 7, 2, 1, 0] rfl) hP hD hS
theorem d_Pai_freeAlike_0 : decode prog_5_method_14_code 0 = .ok (.iconst 0, 1) := by decide +kernel
theorem d_Pai_freeAlike_1 : decode prog_5_method_14_code 1 = .ok (.istore 5, 2) := by decide +kernel
theorem d_Pai_freeAlike_3 : decode prog_5_method_14_code 3 = .ok (.iload 5, 2) := by decide +kernel
theorem d_Pai_freeAlike_5 : decode prog_5_method_14_code 5 = .ok (.aload_n 0, 1) := by decide +kernel
theorem d_Pai_freeAlike_6 : decode prog_5_method_14_code 6 = .ok (.getfield 58, 3) := by decide +kernel
theorem d_Pai_freeAlike_9 : decode prog_5_method_14_code 9 = .ok (.if_icmp .ge 49, 3) := by decide +kernel
theorem d_Pai_freeAlike_12 : decode prog_5_method_14_code 12 = .ok (.iload_n 2, 1) := by decide +kernel
theorem d_Pai_freeAlike_13 : decode prog_5_method_14_code 13 = .ok (.iload 5, 2) := by decide +kernel
theorem d_Pai_freeAlike_15 : decode prog_5_method_14_code 15 = .ok (.ishr, 1) := by decide +kernel
theorem d_Pai_freeAlike_16 : decode prog_5_method_14_code 16 = .ok (.iconst 1, 1) := by decide +kernel
theorem d_Pai_freeAlike_17 : decode prog_5_method_14_code 17 = .ok (.iand, 1) := by decide +kernel
theorem d_Pai_freeAlike_18 : decode prog_5_method_14_code 18 = .ok (.ifCond .eq 34, 3) := by decide +kernel
theorem d_Pai_freeAlike_21 : decode prog_5_method_14_code 21 = .ok (.aload_n 0, 1) := by decide +kernel
theorem d_Pai_freeAlike_22 : decode prog_5_method_14_code 22 = .ok (.getfield 20, 3) := by decide +kernel
theorem d_Pai_freeAlike_25 : decode prog_5_method_14_code 25 = .ok (.iload_n 1, 1) := by decide +kernel
theorem d_Pai_freeAlike_26 : decode prog_5_method_14_code 26 = .ok (.aaload, 1) := by decide +kernel
theorem d_Pai_freeAlike_27 : decode prog_5_method_14_code 27 = .ok (.iload 5, 2) := by decide +kernel
theorem d_Pai_freeAlike_29 : decode prog_5_method_14_code 29 = .ok (.iaload, 1) := by decide +kernel
theorem d_Pai_freeAlike_30 : decode prog_5_method_14_code 30 = .ok (.iload_n 3, 1) := by decide +kernel
theorem d_Pai_freeAlike_31 : decode prog_5_method_14_code 31 = .ok (.ishr, 1) := by decide +kernel
theorem d_Pai_freeAlike_32 : decode prog_5_method_14_code 32 = .ok (.aload_n 0, 1) := by decide +kernel
theorem d_Pai_freeAlike_33 : decode prog_5_method_14_code 33 = .ok (.getfield 20, 3) := by decide +kernel
theorem d_Pai_freeAlike_36 : decode prog_5_method_14_code 36 = .ok (.iload_n 1, 1) := by decide +kernel
theorem d_Pai_freeAlike_37 : decode prog_5_method_14_code 37 = .ok (.aaload, 1) := by decide +kernel
theorem d_Pai_freeAlike_38 : decode prog_5_method_14_code 38 = .ok (.iload 5, 2) := by decide +kernel
theorem d_Pai_freeAlike_40 : decode prog_5_method_14_code 40 = .ok (.iaload, 1) := by decide +kernel
theorem d_Pai_freeAlike_41 : decode prog_5_method_14_code 41 = .ok (.iload 4, 2) := by decide +kernel
theorem d_Pai_freeAlike_43 : decode prog_5_method_14_code 43 = .ok (.ishr, 1) := by decide +kernel
theorem d_Pai_freeAlike_44 : decode prog_5_method_14_code 44 = .ok (.ixor, 1) := by decide +kernel
theorem d_Pai_freeAlike_45 : decode prog_5_method_14_code 45 = .ok (.iconst 1, 1) := by decide +kernel
theorem d_Pai_freeAlike_46 : decode prog_5_method_14_code 46 = .ok (.iand, 1) := by decide +kernel
theorem d_Pai_freeAlike_47 : decode prog_5_method_14_code 47 = .ok (.ifCond .eq 5, 3) := by decide +kernel
theorem d_Pai_freeAlike_50 : decode prog_5_method_14_code 50 = .ok (.iconst 0, 1) := by decide +kernel
theorem d_Pai_freeAlike_51 : decode prog_5_method_14_code 51 = .ok (.ireturn, 1) := by decide +kernel
theorem d_Pai_freeAlike_52 : decode prog_5_method_14_code 52 = .ok (.iinc 5 1, 3) := by decide +kernel
theorem d_Pai_freeAlike_55 : decode prog_5_method_14_code 55 = .ok (.goto (-52), 3) := by decide +kernel
theorem d_Pai_freeAlike_58 : decode prog_5_method_14_code 58 = .ok (.iconst 1, 1) := by decide +kernel
theorem d_Pai_freeAlike_59 : decode prog_5_method_14_code 59 = .ok (.ireturn, 1) := by decide +kernel
abbrev wd_Pai_freeAlike (cI cJ cG cZ : ClassId) (a0 a0_paint a0_near a0_free a0_uses : Nat) (r0_free : Nat → Nat) (v0_items : Int32) (v0_evenly : Int32) (v0_palette : Int32) (v0_share : Int32) (v0_bigger : Int32) (v0_bigNow : Int32) (w0_free : Nat → Nat → Int32) : va_W := [(a0, .inr (2, [.ref a0_paint, .ref a0_near, .ref a0_free, .ref a0_uses, .int v0_items, .int v0_evenly, .int v0_palette, .int v0_share, .int v0_bigger, .int v0_bigNow])), (a0_free, .inl (cG, 18, .inr (.inr (.inr (.inr (gO r0_free 18))))))] ++ rowsW r0_free cI 16 18 w0_free
abbrev we_Pai_freeAlike (cI cJ cG cZ : ClassId) (a0 a0_paint a0_near a0_free a0_uses : Nat) (r0_free : Nat → Nat) (v0_items : Int32) (v0_evenly : Int32) (v0_palette : Int32) (v0_share : Int32) (v0_bigger : Int32) (v0_bigNow : Int32) (w0_free : Nat → Nat → Int32) : va_W := [(a0, .inr (2, [.ref a0_paint, .ref a0_near, .ref a0_free, .ref a0_uses, .int v0_items, .int v0_evenly, .int v0_palette, .int v0_share, .int v0_bigger, .int v0_bigNow])), (a0_free, .inl (cG, 18, .inr (.inr (.inr (.inr (gO r0_free 18))))))]
abbrev us_Pai_freeAlike : List Cond := .code y_Pai_freeAlike prog_5_method_14_code 6 (some .boolean) :: gtbl
abbrev rm_Pai_freeAlike : Room := { frames := 0, cells := 0, slots := 0, locals := 0 }
def m_Pai_freeAlike (F : Nat) (v0_items : Int32) (v0_evenly : Int32) (v0_palette : Int32) (v0_share : Int32) (v0_bigger : Int32) (v0_bigNow : Int32) (w0_free : Nat → Nat → Int32) (p1 : Int32) (p2 : Int32) (p3 : Int32) (p4 : Int32) : Option (Int32) :=
  gL (fun (k_3 : Int32 → Option (Int32)) (x5_1 : Int32) =>
  if v0_items ≤ x5_1 then (
    some 1
  ) else (
    if ((p2 >>> (x5_1 &&& 31)) &&& 1) = 0 then (
      gB (x5_1 + 1) (fun x5_4 =>
      k_3 x5_4)
    ) else (
      gC (inb p1 18) (
      gC (inb x5_1 16) (
      gC (inb p1 18) (
      gC (inb x5_1 16) (
      if ((((w0_free p1.toNatClampNeg x5_1.toNatClampNeg) >>> (p3 &&& 31)) ^^^ ((w0_free p1.toNatClampNeg x5_1.toNatClampNeg) >>> (p4 &&& 31))) &&& 1) = 0 then (
        gB (x5_1 + 1) (fun x5_12 =>
        k_3 x5_12)
      ) else (
        some 0
      )))))
    )
  )
  ) F 0
set_option maxHeartbeats 4000000 in
set_option maxRecDepth 100000 in
theorem c_Pai_freeAlike (l : Launch) (dC : Nat → ClassId) (dI : Nat → Nat → Nat) (cI cJ cG cZ : ClassId) (a0 a0_paint a0_near a0_free a0_uses : Nat) (r0_free : Nat → Nat) (sz : Nat) (F : Nat) (v0_items : Int32) (v0_evenly : Int32) (v0_palette : Int32) (v0_share : Int32) (v0_bigger : Int32) (v0_bigNow : Int32) (w0_free : Nat → Nat → Int32) (p1 : Int32) (p2 : Int32) (p3 : Int32) (p4 : Int32) (ret : Int32) (hm : m_Pai_freeAlike F v0_items v0_evenly v0_palette v0_share v0_bigger v0_bigNow w0_free p1 p2 p3 p4 = some ret) : Met l y_Pai_freeAlike us_Pai_freeAlike rm_Pai_freeAlike (PcS (dC, dI) (tyL cI cJ cG cZ) [.ref a0, .int p1, .int p2, .int p3, .int p4] sz (wd_Pai_freeAlike cI cJ cG cZ a0 a0_paint a0_near a0_free a0_uses r0_free v0_items v0_evenly v0_palette v0_share v0_bigger v0_bigNow w0_free)) (va_Qi (fun (r : Int32) (_ : Unit) => ret = r ∧ bz r) (fun _ t => PoS (dC, dI) (tyL cI cJ cG cZ) (wd_Pai_freeAlike cI cJ cG cZ a0 a0_paint a0_near a0_free a0_uses r0_free v0_items v0_evenly v0_palette v0_share v0_bigger v0_bigNow w0_free) (va_A (wd_Pai_freeAlike cI cJ cG cZ a0 a0_paint a0_near a0_free a0_uses r0_free v0_items v0_evenly v0_palette v0_share v0_bigger v0_bigNow w0_free) sz) t) (va_A (wd_Pai_freeAlike cI cJ cG cZ a0 a0_paint a0_near a0_free a0_uses r0_free v0_items v0_evenly v0_palette v0_share v0_bigger v0_bigNow w0_free) sz)) 0 0 (va_A (wd_Pai_freeAlike cI cJ cG cZ a0 a0_paint a0_near a0_free a0_uses r0_free v0_items v0_evenly v0_palette v0_share v0_bigger v0_bigNow w0_free) sz) := by
  refine Met.ofW (cc := prog_5_method_14_code) (maxL := 6) (ret := (some .boolean)) (by decide) rfl ?_
  intro p e s m args below meth c s₁ B hml hv
  obtain ⟨rfl, hsz, hP, hK, hD0, hNw⟩ := hv
  have hx := B.exec
  have hb := B.bytes
  have hr := B.returns
  have htt : ∀ w ∈ gtbl, w.before _ s = true := fun w h => atoms_spec (ws := us_Pai_freeAlike) B.pre w (List.mem_cons_of_mem _ h)
  have hown : s.vm.findClass R_Pai = some m.cls := findClass_of_methodNamed B.named
  have hlocks := B.notSynchronized
  subst hsz
  have hD := hD0.self (sz := s.heap.size)
  generalize hAe : va_A (wd_Pai_freeAlike cI cJ cG cZ a0 a0_paint a0_near a0_free a0_uses r0_free v0_items v0_evenly v0_palette v0_share v0_bigger v0_bigNow w0_free) s.heap.size = A at hD ⊢
  have hA : ∀ q : Nat, s.heap.size ≤ q → A q := fun q h => by rw [← hAe]; exact Or.inr h
  clear hAe hD0
  have hS : va_S A s.heap s.heap [] := va_S.rf
  have hl := lv_entry ([.ref a0, .int p1, .int p2, .int p3, .int p4]) (n := 6) (Nat.le_of_ble_eq_true rfl)
  rw [lg_entry_eq]
  generalize (lg_sl ([.ref a0, .int p1, .int p2, .int p3, .int p4]) ++ List.replicate (6 - (lg_sl ([.ref a0, .int p1, .int p2, .int p3, .int p4])).length) Slot.unset).toArray = ls at hl ⊢
  have hl : lv_has ls 6 [(0, .ref a0), (1, .int p1), (2, .int p2), (3, .int p3), (4, .int p4)] := hl
  generalize hH : s.heap = H at hP ⊢
  have hS : va_S A s.heap H [] := hH ▸ hS
  generalize hLo : ([] : List Loc) = locs at hS ⊢
  clear hH hLo
  unfold m_Pai_freeAlike at hm
  refine lv_iconst (v := 0) hx hb d_Pai_freeAlike_0 (by decide) ?_
  refine lv_istore (lv' := [(5, .int 0), (0, .ref a0), (1, .int p1), (2, .int p2), (3, .int p3), (4, .int p4)]) hx hb d_Pai_freeAlike_1 hl (by decide) rfl (fun ls hl => ?_)
  refine gL_e (P := (fun (z_3 : Int32) => ∀ (x5_1 : Int32), x5_1 = z_3 → ∀ (ls : Array Slot) (H : Heap) (locs : List Loc), lv_has ls 6 [(0, .ref a0), (1, .int p1), (2, .int p2), (3, .int p3), (4, .int p4), (5, .int x5_1)] → va_P (dC, dI) vwCl (wd_Pai_freeAlike cI cJ cG cZ a0 a0_paint a0_near a0_free a0_uses r0_free v0_items v0_evenly v0_palette v0_share v0_bigger v0_bigNow w0_free) H → va_D A (wd_Pai_freeAlike cI cJ cG cZ a0 a0_paint a0_near a0_free a0_uses r0_free v0_items v0_evenly v0_palette v0_share v0_bigger v0_bigNow w0_free) → va_S A s.heap H locs → W p l e (headSpec us_Pai_freeAlike rm_Pai_freeAlike).room s m ([.ref a0, .int p1, .int p2, .int p3, .int p4] : List Value).toArray below meth c H locs 0 0 (MQ below (va_Qi (fun (r : Int32) (_ : Unit) => ret = r ∧ bz r) (fun _ t => PoS (dC, dI) (tyL cI cJ cG cZ) (wd_Pai_freeAlike cI cJ cG cZ a0 a0_paint a0_near a0_free a0_uses r0_free v0_items v0_evenly v0_palette v0_share v0_bigger v0_bigNow w0_free) A t) A) ([.ref a0, .int p1, .int p2, .int p3, .int p4] : List Value).toArray s 0 0 A) (F0 m 3 ls []))) hm (fun k_3 z_3 ih_3 hm => ?_) _ rfl ls H locs (lv_sub hl [1, 2, 3, 4, 5, 0] rfl) hP hD hS
  intro x5_1 hz ls H locs hl hP hD hS
  subst hz
  refine lv_iload hx hb d_Pai_freeAlike_3 (lv_at hl 5 rfl) ?_
  refine lv_aload_n hx hb d_Pai_freeAlike_5 rfl (lv_at hl 0 rfl) ?_
  refine va_get (D := (dC, dI)) (ci := 2) (v := .int v0_items) (C := R_Pai) (T := T_Pai) (N := 10) hx hb htt hin_Pai hown hK hP 0 rfl rfl 4 (by decide) (htt _ kt_86) (fun _ h9 => h9) rfl d_Pai_freeAlike_6 ?_
  refine lv_icmp_ge (tgt := 58) hx hb d_Pai_freeAlike_9 (by decide) (fun c_2 => ?_) (fun c_2 => ?_)
  · have hm := ite_t c_2 hm
    refine lv_iconst (v := 1) hx hb d_Pai_freeAlike_58 (by decide) ?_
    cases hm
    exact W.zret (ty := .boolean) hx hb hr (bz_nar (by decide : bz 1)) (fun t ht hW => ⟨⟨_, (), rfl, ⟨rfl, (by decide : bz 1)⟩, by rw [ht]; exact hP, va_K.moved hW.alike hK, hD⟩, hS.F ht⟩) hS.2.2 d_Pai_freeAlike_59
  · have hm := ite_f c_2 hm
    refine lv_iload_n hx hb d_Pai_freeAlike_12 rfl (lv_at hl 2 rfl) ?_
    refine lv_iload hx hb d_Pai_freeAlike_13 (lv_at hl 5 rfl) ?_
    refine lv_ishr hx hb d_Pai_freeAlike_15 ?_
    refine lv_iconst (v := 1) hx hb d_Pai_freeAlike_16 (by decide) ?_
    refine lv_iand hx hb d_Pai_freeAlike_17 ?_
    refine lv_if_eq (tgt := 52) hx hb d_Pai_freeAlike_18 (by decide) (fun c_3 => ?_) (fun c_3 => ?_)
    · have hm := ite_t c_3 hm
      obtain ⟨x5_4, ex5_4⟩ : ∃ y : Int32, y = x5_1 + 1 := ⟨_, rfl⟩
      have hm := gB_at ex5_4 hm
      refine lv_iinc (v := x5_4) (lv' := [(5, .int x5_4), (0, .ref a0), (1, .int p1), (2, .int p2), (3, .int p3), (4, .int p4)]) hx hb d_Pai_freeAlike_52 hl (k := 5) rfl (by rw [ex5_4]; rfl) (by decide) rfl (fun ls hl => ?_)
      refine lv_goto (tgt := 3) hx hb d_Pai_freeAlike_55 (by decide) ?_
      exact ih_3 _ hm _ rfl ls H locs (lv_sub hl [1, 2, 3, 4, 5, 0] rfl) hP hD hS
    · have hm := ite_f c_3 hm
      refine lv_aload_n hx hb d_Pai_freeAlike_21 rfl (lv_at hl 0 rfl) ?_
      refine va_get (D := (dC, dI)) (ci := 2) (v := .ref a0_free) (C := R_Pai) (T := T_Pai) (N := 10) hx hb htt hin_Pai hown hK hP 0 rfl rfl 2 (by decide) (htt _ kt_84) (fun _ h9 => h9) rfl d_Pai_freeAlike_22 ?_
      refine lv_iload_n hx hb d_Pai_freeAlike_25 rfl (lv_at hl 1 rfl) ?_
      obtain ⟨hi_5, hm⟩ := gC_e hm
      have hj_6 := inb_lt hi_5
      refine gx_ald hx hb hK hP 1 2 rfl rfl (inb_vp hi_5) d_Pai_freeAlike_26 ?_
      refine lv_iload hx hb d_Pai_freeAlike_27 (lv_at hl 5 rfl) ?_
      obtain ⟨hi_7, hm⟩ := gC_e hm
      refine va_iald hx hb hK hP (2 + p1.toNatClampNeg) 0 (rows_get rfl hj_6) rfl (inb_vp hi_7) d_Pai_freeAlike_29 ?_
      refine lv_iload_n hx hb d_Pai_freeAlike_30 rfl (lv_at hl 3 rfl) ?_
      refine lv_ishr hx hb d_Pai_freeAlike_31 ?_
      refine lv_aload_n hx hb d_Pai_freeAlike_32 rfl (lv_at hl 0 rfl) ?_
      refine va_get (D := (dC, dI)) (ci := 2) (v := .ref a0_free) (C := R_Pai) (T := T_Pai) (N := 10) hx hb htt hin_Pai hown hK hP 0 rfl rfl 2 (by decide) (htt _ kt_84) (fun _ h9 => h9) rfl d_Pai_freeAlike_33 ?_
      refine lv_iload_n hx hb d_Pai_freeAlike_36 rfl (lv_at hl 1 rfl) ?_
      obtain ⟨hi_8, hm⟩ := gC_e hm
      have hj_9 := inb_lt hi_8
      refine gx_ald hx hb hK hP 1 2 rfl rfl (inb_vp hi_8) d_Pai_freeAlike_37 ?_
      refine lv_iload hx hb d_Pai_freeAlike_38 (lv_at hl 5 rfl) ?_
      obtain ⟨hi_10, hm⟩ := gC_e hm
      refine va_iald hx hb hK hP (2 + p1.toNatClampNeg) 0 (rows_get rfl hj_9) rfl (inb_vp hi_10) d_Pai_freeAlike_40 ?_
      refine lv_iload hx hb d_Pai_freeAlike_41 (lv_at hl 4 rfl) ?_
      refine lv_ishr hx hb d_Pai_freeAlike_43 ?_
      refine lv_ixor hx hb d_Pai_freeAlike_44 ?_
      refine lv_iconst (v := 1) hx hb d_Pai_freeAlike_45 (by decide) ?_
      refine lv_iand hx hb d_Pai_freeAlike_46 ?_
      refine lv_if_eq (tgt := 52) hx hb d_Pai_freeAlike_47 (by decide) (fun c_11 => ?_) (fun c_11 => ?_)
      · have hm := ite_t c_11 hm
        obtain ⟨x5_12, ex5_12⟩ : ∃ y : Int32, y = x5_1 + 1 := ⟨_, rfl⟩
        have hm := gB_at ex5_12 hm
        refine lv_iinc (v := x5_12) (lv' := [(5, .int x5_12), (0, .ref a0), (1, .int p1), (2, .int p2), (3, .int p3), (4, .int p4)]) hx hb d_Pai_freeAlike_52 hl (k := 5) rfl (by rw [ex5_12]; rfl) (by decide) rfl (fun ls hl => ?_)
        refine lv_goto (tgt := 3) hx hb d_Pai_freeAlike_55 (by decide) ?_
        exact ih_3 _ hm _ rfl ls H locs (lv_sub hl [1, 2, 3, 4, 5, 0] rfl) hP hD hS
      · have hm := ite_f c_11 hm
        refine lv_iconst (v := 0) hx hb d_Pai_freeAlike_50 (by decide) ?_
        cases hm
        exact W.zret (ty := .boolean) hx hb hr (bz_nar (by decide : bz 0)) (fun t ht hW => ⟨⟨_, (), rfl, ⟨rfl, (by decide : bz 0)⟩, by rw [ht]; exact hP, va_K.moved hW.alike hK, hD⟩, hS.F ht⟩) hS.2.2 d_Pai_freeAlike_51
theorem d_Pai_likeEarlier_0 : decode prog_5_method_13_code 0 = .ok (.iconst 0, 1) := by decide +kernel
theorem d_Pai_likeEarlier_1 : decode prog_5_method_13_code 1 = .ok (.istore 5, 2) := by decide +kernel
theorem d_Pai_likeEarlier_3 : decode prog_5_method_13_code 3 = .ok (.iload 5, 2) := by decide +kernel
theorem d_Pai_likeEarlier_5 : decode prog_5_method_13_code 5 = .ok (.iload 4, 2) := by decide +kernel
theorem d_Pai_likeEarlier_7 : decode prog_5_method_13_code 7 = .ok (.if_icmp .ge 57, 3) := by decide +kernel
theorem d_Pai_likeEarlier_10 : decode prog_5_method_13_code 10 = .ok (.iload_n 3, 1) := by decide +kernel
theorem d_Pai_likeEarlier_11 : decode prog_5_method_13_code 11 = .ok (.iload 5, 2) := by decide +kernel
theorem d_Pai_likeEarlier_13 : decode prog_5_method_13_code 13 = .ok (.ishr, 1) := by decide +kernel
theorem d_Pai_likeEarlier_14 : decode prog_5_method_13_code 14 = .ok (.iconst 1, 1) := by decide +kernel
theorem d_Pai_likeEarlier_15 : decode prog_5_method_13_code 15 = .ok (.iand, 1) := by decide +kernel
theorem d_Pai_likeEarlier_16 : decode prog_5_method_13_code 16 = .ok (.ifCond .eq 42, 3) := by decide +kernel
theorem d_Pai_likeEarlier_19 : decode prog_5_method_13_code 19 = .ok (.aload_n 0, 1) := by decide +kernel
theorem d_Pai_likeEarlier_20 : decode prog_5_method_13_code 20 = .ok (.getfield 67, 3) := by decide +kernel
theorem d_Pai_likeEarlier_23 : decode prog_5_method_13_code 23 = .ok (.ifCond .eq 20, 3) := by decide +kernel
theorem d_Pai_likeEarlier_26 : decode prog_5_method_13_code 26 = .ok (.aload_n 0, 1) := by decide +kernel
theorem d_Pai_likeEarlier_27 : decode prog_5_method_13_code 27 = .ok (.getfield 23, 3) := by decide +kernel
theorem d_Pai_likeEarlier_30 : decode prog_5_method_13_code 30 = .ok (.iload 5, 2) := by decide +kernel
theorem d_Pai_likeEarlier_32 : decode prog_5_method_13_code 32 = .ok (.iaload, 1) := by decide +kernel
theorem d_Pai_likeEarlier_33 : decode prog_5_method_13_code 33 = .ok (.aload_n 0, 1) := by decide +kernel
theorem d_Pai_likeEarlier_34 : decode prog_5_method_13_code 34 = .ok (.getfield 23, 3) := by decide +kernel
theorem d_Pai_likeEarlier_37 : decode prog_5_method_13_code 37 = .ok (.iload 4, 2) := by decide +kernel
theorem d_Pai_likeEarlier_39 : decode prog_5_method_13_code 39 = .ok (.iaload, 1) := by decide +kernel
theorem d_Pai_likeEarlier_40 : decode prog_5_method_13_code 40 = .ok (.if_icmp .ne 18, 3) := by decide +kernel
theorem d_Pai_likeEarlier_43 : decode prog_5_method_13_code 43 = .ok (.aload_n 0, 1) := by decide +kernel
theorem d_Pai_likeEarlier_44 : decode prog_5_method_13_code 44 = .ok (.iload_n 1, 1) := by decide +kernel
theorem d_Pai_likeEarlier_45 : decode prog_5_method_13_code 45 = .ok (.iload_n 2, 1) := by decide +kernel
theorem d_Pai_likeEarlier_46 : decode prog_5_method_13_code 46 = .ok (.iload 5, 2) := by decide +kernel
theorem d_Pai_likeEarlier_48 : decode prog_5_method_13_code 48 = .ok (.iload 4, 2) := by decide +kernel
theorem d_Pai_likeEarlier_50 : decode prog_5_method_13_code 50 = .ok (.invokevirtual 124, 3) := by decide +kernel
theorem d_Pai_likeEarlier_53 : decode prog_5_method_13_code 53 = .ok (.ifCond .eq 5, 3) := by decide +kernel
theorem d_Pai_likeEarlier_56 : decode prog_5_method_13_code 56 = .ok (.iconst 1, 1) := by decide +kernel
theorem d_Pai_likeEarlier_57 : decode prog_5_method_13_code 57 = .ok (.ireturn, 1) := by decide +kernel
theorem d_Pai_likeEarlier_58 : decode prog_5_method_13_code 58 = .ok (.iinc 5 1, 3) := by decide +kernel
theorem d_Pai_likeEarlier_61 : decode prog_5_method_13_code 61 = .ok (.goto (-58), 3) := by decide +kernel
theorem d_Pai_likeEarlier_64 : decode prog_5_method_13_code 64 = .ok (.iconst 0, 1) := by decide +kernel
theorem d_Pai_likeEarlier_65 : decode prog_5_method_13_code 65 = .ok (.ireturn, 1) := by decide +kernel
abbrev wd_Pai_likeEarlier (cI cJ cG cZ : ClassId) (a0 a0_paint a0_near a0_free a0_uses : Nat) (r0_free : Nat → Nat) (v0_items : Int32) (v0_evenly : Int32) (v0_palette : Int32) (v0_share : Int32) (v0_bigger : Int32) (v0_bigNow : Int32) (w0_uses : Nat → Int32) (w0_free : Nat → Nat → Int32) : va_W := [(a0, .inr (2, [.ref a0_paint, .ref a0_near, .ref a0_free, .ref a0_uses, .int v0_items, .int v0_evenly, .int v0_palette, .int v0_share, .int v0_bigger, .int v0_bigNow])), (a0_free, .inl (cG, 18, .inr (.inr (.inr (.inr (gO r0_free 18)))))), (a0_uses, .inl (cI, 12, .inl w0_uses))] ++ rowsW r0_free cI 16 18 w0_free
abbrev we_Pai_likeEarlier (cI cJ cG cZ : ClassId) (a0 a0_paint a0_near a0_free a0_uses : Nat) (r0_free : Nat → Nat) (v0_items : Int32) (v0_evenly : Int32) (v0_palette : Int32) (v0_share : Int32) (v0_bigger : Int32) (v0_bigNow : Int32) (w0_uses : Nat → Int32) (w0_free : Nat → Nat → Int32) : va_W := [(a0, .inr (2, [.ref a0_paint, .ref a0_near, .ref a0_free, .ref a0_uses, .int v0_items, .int v0_evenly, .int v0_palette, .int v0_share, .int v0_bigger, .int v0_bigNow])), (a0_free, .inl (cG, 18, .inr (.inr (.inr (.inr (gO r0_free 18)))))), (a0_uses, .inl (cI, 12, .inl w0_uses))]
abbrev us_Pai_likeEarlier : List Cond := .code y_Pai_likeEarlier prog_5_method_13_code 6 (some .boolean) :: gtbl
abbrev rm_Pai_likeEarlier : Room := { frames := 1, cells := 0, slots := 0, locals := 25 }
def m_Pai_likeEarlier (F : Nat) (v0_items : Int32) (v0_evenly : Int32) (v0_palette : Int32) (v0_share : Int32) (v0_bigger : Int32) (v0_bigNow : Int32) (w0_uses : Nat → Int32) (w0_free : Nat → Nat → Int32) (p1 : Int32) (p2 : Int32) (p3 : Int32) (p4 : Int32) : Option (Int32) :=
  gL (fun (k_3 : Int32 → Option (Int32)) (x5_1 : Int32) =>
  if p4 ≤ x5_1 then (
    some 0
  ) else (
    if ((p3 >>> (x5_1 &&& 31)) &&& 1) = 0 then (
      gB (x5_1 + 1) (fun x5_4 =>
      k_3 x5_4)
    ) else (
      gB (α := Option (Int32)) (
        gM (m_Pai_freeAlike F v0_items v0_evenly v0_palette v0_share v0_bigger v0_bigNow w0_free p1 p2 x5_1 p4) (fun q_5 =>
        if q_5 = 0 then (
          gB (x5_1 + 1) (fun x5_10 =>
          k_3 x5_10)
        ) else (
          some 1
        ))
      ) (fun J_43 =>
      if v0_evenly = 0 then (
        J_43
      ) else (
        gC (inb x5_1 12) (
        gC (inb p4 12) (
        if (w0_uses x5_1.toNatClampNeg) = (w0_uses p4.toNatClampNeg) then (
          J_43
        ) else (
          gB (x5_1 + 1) (fun x5_15 =>
          k_3 x5_15)
        )))
      )
      )
    )
  )
  ) F 0
set_option maxHeartbeats 4000000 in
set_option maxRecDepth 100000 in
theorem c_Pai_likeEarlier (l : Launch) (dC : Nat → ClassId) (dI : Nat → Nat → Nat) (cI cJ cG cZ : ClassId) (a0 a0_paint a0_near a0_free a0_uses : Nat) (r0_free : Nat → Nat) (sz : Nat) (F : Nat) (v0_items : Int32) (v0_evenly : Int32) (v0_palette : Int32) (v0_share : Int32) (v0_bigger : Int32) (v0_bigNow : Int32) (w0_uses : Nat → Int32) (w0_free : Nat → Nat → Int32) (p1 : Int32) (p2 : Int32) (p3 : Int32) (p4 : Int32) (ret : Int32) (hm : m_Pai_likeEarlier F v0_items v0_evenly v0_palette v0_share v0_bigger v0_bigNow w0_uses w0_free p1 p2 p3 p4 = some ret) : Met l y_Pai_likeEarlier us_Pai_likeEarlier rm_Pai_likeEarlier (PcS (dC, dI) (tyL cI cJ cG cZ) [.ref a0, .int p1, .int p2, .int p3, .int p4] sz (wd_Pai_likeEarlier cI cJ cG cZ a0 a0_paint a0_near a0_free a0_uses r0_free v0_items v0_evenly v0_palette v0_share v0_bigger v0_bigNow w0_uses w0_free)) (va_Qi (fun (r : Int32) (_ : Unit) => ret = r ∧ bz r) (fun _ t => PoS (dC, dI) (tyL cI cJ cG cZ) (wd_Pai_likeEarlier cI cJ cG cZ a0 a0_paint a0_near a0_free a0_uses r0_free v0_items v0_evenly v0_palette v0_share v0_bigger v0_bigNow w0_uses w0_free) (va_A (wd_Pai_likeEarlier cI cJ cG cZ a0 a0_paint a0_near a0_free a0_uses r0_free v0_items v0_evenly v0_palette v0_share v0_bigger v0_bigNow w0_uses w0_free) sz) t) (va_A (wd_Pai_likeEarlier cI cJ cG cZ a0 a0_paint a0_near a0_free a0_uses r0_free v0_items v0_evenly v0_palette v0_share v0_bigger v0_bigNow w0_uses w0_free) sz)) 0 0 (va_A (wd_Pai_likeEarlier cI cJ cG cZ a0 a0_paint a0_near a0_free a0_uses r0_free v0_items v0_evenly v0_palette v0_share v0_bigger v0_bigNow w0_uses w0_free) sz) := by
  refine Met.ofW (cc := prog_5_method_13_code) (maxL := 6) (ret := (some .boolean)) (by decide) rfl ?_
  intro p e s m args below meth c s₁ B hml hv
  obtain ⟨rfl, hsz, hP, hK, hD0, hNw⟩ := hv
  have hx := B.exec
  have hb := B.bytes
  have hr := B.returns
  have htt : ∀ w ∈ gtbl, w.before _ s = true := fun w h => atoms_spec (ws := us_Pai_likeEarlier) B.pre w (List.mem_cons_of_mem _ h)
  have hown : s.vm.findClass R_Pai = some m.cls := findClass_of_methodNamed B.named
  have hlocks := B.notSynchronized
  subst hsz
  have hD := hD0.self (sz := s.heap.size)
  generalize hAe : va_A (wd_Pai_likeEarlier cI cJ cG cZ a0 a0_paint a0_near a0_free a0_uses r0_free v0_items v0_evenly v0_palette v0_share v0_bigger v0_bigNow w0_uses w0_free) s.heap.size = A at hD ⊢
  have hA : ∀ q : Nat, s.heap.size ≤ q → A q := fun q h => by rw [← hAe]; exact Or.inr h
  clear hAe hD0
  have hS : va_S A s.heap s.heap [] := va_S.rf
  have hl := lv_entry ([.ref a0, .int p1, .int p2, .int p3, .int p4]) (n := 6) (Nat.le_of_ble_eq_true rfl)
  rw [lg_entry_eq]
  generalize (lg_sl ([.ref a0, .int p1, .int p2, .int p3, .int p4]) ++ List.replicate (6 - (lg_sl ([.ref a0, .int p1, .int p2, .int p3, .int p4])).length) Slot.unset).toArray = ls at hl ⊢
  have hl : lv_has ls 6 [(0, .ref a0), (1, .int p1), (2, .int p2), (3, .int p3), (4, .int p4)] := hl
  generalize hH : s.heap = H at hP ⊢
  have hS : va_S A s.heap H [] := hH ▸ hS
  generalize hLo : ([] : List Loc) = locs at hS ⊢
  clear hH hLo
  unfold m_Pai_likeEarlier at hm
  refine lv_iconst (v := 0) hx hb d_Pai_likeEarlier_0 (by decide) ?_
  refine lv_istore (lv' := [(5, .int 0), (0, .ref a0), (1, .int p1), (2, .int p2), (3, .int p3), (4, .int p4)]) hx hb d_Pai_likeEarlier_1 hl (by decide) rfl (fun ls hl => ?_)
  refine gL_e (P := (fun (z_3 : Int32) => ∀ (x5_1 : Int32), x5_1 = z_3 → ∀ (ls : Array Slot) (H : Heap) (locs : List Loc), lv_has ls 6 [(0, .ref a0), (1, .int p1), (2, .int p2), (3, .int p3), (4, .int p4), (5, .int x5_1)] → va_P (dC, dI) vwCl (wd_Pai_likeEarlier cI cJ cG cZ a0 a0_paint a0_near a0_free a0_uses r0_free v0_items v0_evenly v0_palette v0_share v0_bigger v0_bigNow w0_uses w0_free) H → va_D A (wd_Pai_likeEarlier cI cJ cG cZ a0 a0_paint a0_near a0_free a0_uses r0_free v0_items v0_evenly v0_palette v0_share v0_bigger v0_bigNow w0_uses w0_free) → va_S A s.heap H locs → W p l e (headSpec us_Pai_likeEarlier rm_Pai_likeEarlier).room s m ([.ref a0, .int p1, .int p2, .int p3, .int p4] : List Value).toArray below meth c H locs 0 0 (MQ below (va_Qi (fun (r : Int32) (_ : Unit) => ret = r ∧ bz r) (fun _ t => PoS (dC, dI) (tyL cI cJ cG cZ) (wd_Pai_likeEarlier cI cJ cG cZ a0 a0_paint a0_near a0_free a0_uses r0_free v0_items v0_evenly v0_palette v0_share v0_bigger v0_bigNow w0_uses w0_free) A t) A) ([.ref a0, .int p1, .int p2, .int p3, .int p4] : List Value).toArray s 0 0 A) (F0 m 3 ls []))) hm (fun k_3 z_3 ih_3 hm => ?_) _ rfl ls H locs (lv_sub hl [1, 2, 3, 4, 5, 0] rfl) hP hD hS
  intro x5_1 hz ls H locs hl hP hD hS
  subst hz
  refine lv_iload hx hb d_Pai_likeEarlier_3 (lv_at hl 5 rfl) ?_
  refine lv_iload hx hb d_Pai_likeEarlier_5 (lv_at hl 4 rfl) ?_
  refine lv_icmp_ge (tgt := 64) hx hb d_Pai_likeEarlier_7 (by decide) (fun c_2 => ?_) (fun c_2 => ?_)
  · have hm := ite_t c_2 hm
    refine lv_iconst (v := 0) hx hb d_Pai_likeEarlier_64 (by decide) ?_
    cases hm
    exact W.zret (ty := .boolean) hx hb hr (bz_nar (by decide : bz 0)) (fun t ht hW => ⟨⟨_, (), rfl, ⟨rfl, (by decide : bz 0)⟩, by rw [ht]; exact hP, va_K.moved hW.alike hK, hD⟩, hS.F ht⟩) hS.2.2 d_Pai_likeEarlier_65
  · have hm := ite_f c_2 hm
    refine lv_iload_n hx hb d_Pai_likeEarlier_10 rfl (lv_at hl 3 rfl) ?_
    refine lv_iload hx hb d_Pai_likeEarlier_11 (lv_at hl 5 rfl) ?_
    refine lv_ishr hx hb d_Pai_likeEarlier_13 ?_
    refine lv_iconst (v := 1) hx hb d_Pai_likeEarlier_14 (by decide) ?_
    refine lv_iand hx hb d_Pai_likeEarlier_15 ?_
    refine lv_if_eq (tgt := 58) hx hb d_Pai_likeEarlier_16 (by decide) (fun c_3 => ?_) (fun c_3 => ?_)
    · have hm := ite_t c_3 hm
      obtain ⟨x5_4, ex5_4⟩ : ∃ y : Int32, y = x5_1 + 1 := ⟨_, rfl⟩
      have hm := gB_at ex5_4 hm
      refine lv_iinc (v := x5_4) (lv' := [(5, .int x5_4), (0, .ref a0), (1, .int p1), (2, .int p2), (3, .int p3), (4, .int p4)]) hx hb d_Pai_likeEarlier_58 hl (k := 5) rfl (by rw [ex5_4]; rfl) (by decide) rfl (fun ls hl => ?_)
      refine lv_goto (tgt := 3) hx hb d_Pai_likeEarlier_61 (by decide) ?_
      exact ih_3 _ hm _ rfl ls H locs (lv_sub hl [1, 2, 3, 4, 5, 0] rfl) hP hD hS
    · have hm := ite_f c_3 hm
      refine lv_aload_n hx hb d_Pai_likeEarlier_19 rfl (lv_at hl 0 rfl) ?_
      refine va_get (D := (dC, dI)) (ci := 2) (v := .int v0_evenly) (C := R_Pai) (T := T_Pai) (N := 10) hx hb htt hin_Pai hown hK hP 0 rfl rfl 5 (by decide) (htt _ kt_87) (fun _ h9 => h9) rfl d_Pai_likeEarlier_20 ?_
      obtain ⟨J_43, hJ_43, hm⟩ := gB_x hm
      have jp_43 : ∀ (ls : Array Slot) (H : Heap) (locs : List Loc), J_43 = some ret → lv_has ls 6 [(0, .ref a0), (1, .int p1), (2, .int p2), (3, .int p3), (4, .int p4), (5, .int x5_1)] → va_P (dC, dI) vwCl (wd_Pai_likeEarlier cI cJ cG cZ a0 a0_paint a0_near a0_free a0_uses r0_free v0_items v0_evenly v0_palette v0_share v0_bigger v0_bigNow w0_uses w0_free) H → va_D A (wd_Pai_likeEarlier cI cJ cG cZ a0 a0_paint a0_near a0_free a0_uses r0_free v0_items v0_evenly v0_palette v0_share v0_bigger v0_bigNow w0_uses w0_free) → va_S A s.heap H locs → W p l e (headSpec us_Pai_likeEarlier rm_Pai_likeEarlier).room s m ([.ref a0, .int p1, .int p2, .int p3, .int p4] : List Value).toArray below meth c H locs 0 0 (MQ below (va_Qi (fun (r : Int32) (_ : Unit) => ret = r ∧ bz r) (fun _ t => PoS (dC, dI) (tyL cI cJ cG cZ) (wd_Pai_likeEarlier cI cJ cG cZ a0 a0_paint a0_near a0_free a0_uses r0_free v0_items v0_evenly v0_palette v0_share v0_bigger v0_bigNow w0_uses w0_free) A t) A) ([.ref a0, .int p1, .int p2, .int p3, .int p4] : List Value).toArray s 0 0 A) (F0 m 43 ls []) := by
        intro ls H locs hm hl hP hD hS
        have hm := jn0 hJ_43 hm
        refine lv_aload_n hx hb d_Pai_likeEarlier_43 rfl (lv_at hl 0 rfl) ?_
        refine lv_iload_n hx hb d_Pai_likeEarlier_44 rfl (lv_at hl 1 rfl) ?_
        refine lv_iload_n hx hb d_Pai_likeEarlier_45 rfl (lv_at hl 2 rfl) ?_
        refine lv_iload hx hb d_Pai_likeEarlier_46 (lv_at hl 5 rfl) ?_
        refine lv_iload hx hb d_Pai_likeEarlier_48 (lv_at hl 4 rfl) ?_
        obtain ⟨q_5, hc_6, hm⟩ := gM_e hm
        have hPc : va_P (dC, dI) vwCl (wd_Pai_freeAlike cI cJ cG cZ a0 a0_paint a0_near a0_free a0_uses r0_free v0_items v0_evenly v0_palette v0_share v0_bigger v0_bigNow w0_free) H := hP.part [0, 1] rfl
        have hDc : va_D A (wd_Pai_freeAlike cI cJ cG cZ a0 a0_paint a0_near a0_free a0_uses r0_free v0_items v0_evenly v0_palette v0_share v0_bigger v0_bigNow w0_free) := hD.part [0, 1] (by decide) rfl
        have hFc : ∀ q, va_A (wd_Pai_freeAlike cI cJ cG cZ a0 a0_paint a0_near a0_free a0_uses r0_free v0_items v0_evenly v0_palette v0_share v0_bigger v0_bigNow w0_free) H.size q → A q := va_freeP hD hS hA [0, 1] rfl
        refine va_calli (va_runV (As := [.int p1, .int p2, .int x5_1, .int p4]) (rest := []) ⟨hx, hb, hml, hown, htt⟩ (c_Pai_freeAlike l dC dI cI cJ cG cZ a0 a0_paint a0_near a0_free a0_uses r0_free H.size F v0_items v0_evenly v0_palette v0_share v0_bigger v0_bigNow w0_free p1 p2 x5_1 p4 q_5 hc_6) (cwV 4 htt (gdV kt_341 kt_343 kp_7 kt_3 kt_344) rfl rfl rfl (by decide +kernel) ⟨(Nat.le_of_ble_eq_true rfl), (Nat.le_of_ble_eq_true rfl)⟩) ⟨PcS_blind, va_recv hK hPc (ci := 2) (q0 := 0) rfl rfl, PcS_in hPc hK hDc hNw⟩ rfl rfl hl.1 rfl (lv_room (Nat.le_of_ble_eq_true rfl)) d_Pai_likeEarlier_50 ⟨Nat.zero_le _, Nat.zero_le _⟩) hS (fun q _ h => hFc q h) hFc (fun r_7 u t H1 locs ht hvm hw hB hz1 hk1 hS => ?_)
        obtain ⟨hP1, hK1, hD1⟩ := hB
        rw [ht] at hP1
        obtain ⟨hw, hz_8⟩ := hw
        subst hw
        obtain ⟨hP, hD⟩ := va_joinP (wr := [(a0_uses, .inl (cI, 12, .inl w0_uses))]) (rx := (we_Pai_freeAlike cI cJ cG cZ a0 a0_paint a0_near a0_free a0_uses r0_free v0_items v0_evenly v0_palette v0_share v0_bigger v0_bigNow w0_free)) hP hD [0, 1] [2] rfl rfl (by decide) (by decide) hk1 hFc hP1 hD1
        have hP : va_P (dC, dI) vwCl (wd_Pai_likeEarlier cI cJ cG cZ a0 a0_paint a0_near a0_free a0_uses r0_free v0_items v0_evenly v0_palette v0_share v0_bigger v0_bigNow w0_uses w0_free) H1 := hP.part [1, 2, 0] rfl
        have hD : va_D A (wd_Pai_likeEarlier cI cJ cG cZ a0 a0_paint a0_near a0_free a0_uses r0_free v0_items v0_evenly v0_palette v0_share v0_bigger v0_bigNow w0_uses w0_free) := hD.part [1, 2, 0] (by decide) rfl
        clear hP1 hK1 hD1 hk1 hPc hDc hFc ht hvm hz1
        generalize H1 = H at hP hS ⊢
        refine lv_if_eq (tgt := 58) hx hb d_Pai_likeEarlier_53 (by decide) (fun c_9 => ?_) (fun c_9 => ?_)
        · have hm := ite_t c_9 hm
          obtain ⟨x5_10, ex5_10⟩ : ∃ y : Int32, y = x5_1 + 1 := ⟨_, rfl⟩
          have hm := gB_at ex5_10 hm
          refine lv_iinc (v := x5_10) (lv' := [(5, .int x5_10), (0, .ref a0), (1, .int p1), (2, .int p2), (3, .int p3), (4, .int p4)]) hx hb d_Pai_likeEarlier_58 hl (k := 5) rfl (by rw [ex5_10]; rfl) (by decide) rfl (fun ls hl => ?_)
          refine lv_goto (tgt := 3) hx hb d_Pai_likeEarlier_61 (by decide) ?_
          exact ih_3 _ hm _ rfl ls H locs (lv_sub hl [1, 2, 3, 4, 5, 0] rfl) hP hD hS
        · have hm := ite_f c_9 hm
          refine lv_iconst (v := 1) hx hb d_Pai_likeEarlier_56 (by decide) ?_
          cases hm
          exact W.zret (ty := .boolean) hx hb hr (bz_nar (by decide : bz 1)) (fun t ht hW => ⟨⟨_, (), rfl, ⟨rfl, (by decide : bz 1)⟩, by rw [ht]; exact hP, va_K.moved hW.alike hK, hD⟩, hS.F ht⟩) hS.2.2 d_Pai_likeEarlier_57
      clear hJ_43
      refine lv_if_eq (tgt := 43) hx hb d_Pai_likeEarlier_23 (by decide) (fun c_11 => ?_) (fun c_11 => ?_)
      · have hm := ite_t c_11 hm
        exact jp_43 ls H locs hm (lv_sub hl [0, 1, 2, 3, 4, 5] rfl) hP hD hS
      · have hm := ite_f c_11 hm
        refine lv_aload_n hx hb d_Pai_likeEarlier_26 rfl (lv_at hl 0 rfl) ?_
        refine va_get (D := (dC, dI)) (ci := 2) (v := .ref a0_uses) (C := R_Pai) (T := T_Pai) (N := 10) hx hb htt hin_Pai hown hK hP 0 rfl rfl 3 (by decide) (htt _ kt_85) (fun _ h9 => h9) rfl d_Pai_likeEarlier_27 ?_
        refine lv_iload hx hb d_Pai_likeEarlier_30 (lv_at hl 5 rfl) ?_
        obtain ⟨hi_12, hm⟩ := gC_e hm
        refine va_iald hx hb hK hP 2 0 rfl rfl (inb_vp hi_12) d_Pai_likeEarlier_32 ?_
        refine lv_aload_n hx hb d_Pai_likeEarlier_33 rfl (lv_at hl 0 rfl) ?_
        refine va_get (D := (dC, dI)) (ci := 2) (v := .ref a0_uses) (C := R_Pai) (T := T_Pai) (N := 10) hx hb htt hin_Pai hown hK hP 0 rfl rfl 3 (by decide) (htt _ kt_85) (fun _ h9 => h9) rfl d_Pai_likeEarlier_34 ?_
        refine lv_iload hx hb d_Pai_likeEarlier_37 (lv_at hl 4 rfl) ?_
        obtain ⟨hi_13, hm⟩ := gC_e hm
        refine va_iald hx hb hK hP 2 0 rfl rfl (inb_vp hi_13) d_Pai_likeEarlier_39 ?_
        refine lv_icmp_ne (tgt := 58) hx hb d_Pai_likeEarlier_40 (by decide) (fun c_14 => ?_) (fun c_14 => ?_)
        · have hm := ite_f c_14 hm
          obtain ⟨x5_15, ex5_15⟩ : ∃ y : Int32, y = x5_1 + 1 := ⟨_, rfl⟩
          have hm := gB_at ex5_15 hm
          refine lv_iinc (v := x5_15) (lv' := [(5, .int x5_15), (0, .ref a0), (1, .int p1), (2, .int p2), (3, .int p3), (4, .int p4)]) hx hb d_Pai_likeEarlier_58 hl (k := 5) rfl (by rw [ex5_15]; rfl) (by decide) rfl (fun ls hl => ?_)
          refine lv_goto (tgt := 3) hx hb d_Pai_likeEarlier_61 (by decide) ?_
          exact ih_3 _ hm _ rfl ls H locs (lv_sub hl [1, 2, 3, 4, 5, 0] rfl) hP hD hS
        · have hm := ite_t c_14 hm
          exact jp_43 ls H locs hm (lv_sub hl [0, 1, 2, 3, 4, 5] rfl) hP hD hS
theorem d_Pai_use_0 : decode prog_5_method_18_code 0 = .ok (.aload_n 0, 1) := by decide +kernel
theorem d_Pai_use_1 : decode prog_5_method_18_code 1 = .ok (.getfield 23, 3) := by decide +kernel
theorem d_Pai_use_4 : decode prog_5_method_18_code 4 = .ok (.iload_n 1, 1) := by decide +kernel
theorem d_Pai_use_5 : decode prog_5_method_18_code 5 = .ok (.dup2, 1) := by decide +kernel
theorem d_Pai_use_6 : decode prog_5_method_18_code 6 = .ok (.iaload, 1) := by decide +kernel
theorem d_Pai_use_7 : decode prog_5_method_18_code 7 = .ok (.iconst 1, 1) := by decide +kernel
theorem d_Pai_use_8 : decode prog_5_method_18_code 8 = .ok (.iadd, 1) := by decide +kernel
theorem d_Pai_use_9 : decode prog_5_method_18_code 9 = .ok (.iastore, 1) := by decide +kernel
theorem d_Pai_use_10 : decode prog_5_method_18_code 10 = .ok (.aload_n 0, 1) := by decide +kernel
theorem d_Pai_use_11 : decode prog_5_method_18_code 11 = .ok (.getfield 23, 3) := by decide +kernel
theorem d_Pai_use_14 : decode prog_5_method_18_code 14 = .ok (.iload_n 1, 1) := by decide +kernel
theorem d_Pai_use_15 : decode prog_5_method_18_code 15 = .ok (.iaload, 1) := by decide +kernel
theorem d_Pai_use_16 : decode prog_5_method_18_code 16 = .ok (.aload_n 0, 1) := by decide +kernel
theorem d_Pai_use_17 : decode prog_5_method_18_code 17 = .ok (.getfield 74, 3) := by decide +kernel
theorem d_Pai_use_20 : decode prog_5_method_18_code 20 = .ok (.if_icmp .le 13, 3) := by decide +kernel
theorem d_Pai_use_23 : decode prog_5_method_18_code 23 = .ok (.aload_n 0, 1) := by decide +kernel
theorem d_Pai_use_24 : decode prog_5_method_18_code 24 = .ok (.dup, 1) := by decide +kernel
theorem d_Pai_use_25 : decode prog_5_method_18_code 25 = .ok (.getfield 80, 3) := by decide +kernel
theorem d_Pai_use_28 : decode prog_5_method_18_code 28 = .ok (.iconst 1, 1) := by decide +kernel
theorem d_Pai_use_29 : decode prog_5_method_18_code 29 = .ok (.iadd, 1) := by decide +kernel
theorem d_Pai_use_30 : decode prog_5_method_18_code 30 = .ok (.putfield 80, 3) := by decide +kernel
theorem d_Pai_use_33 : decode prog_5_method_18_code 33 = .ok (.return_, 1) := by decide +kernel
abbrev wd_Pai_use (cI cJ cG cZ : ClassId) (a0 a0_paint a0_near a0_free a0_uses : Nat) (v0_items : Int32) (v0_evenly : Int32) (v0_palette : Int32) (v0_share : Int32) (v0_bigger : Int32) (v0_bigNow : Int32) (w0_uses : Nat → Int32) : va_W := [(a0, .inr (2, [.ref a0_paint, .ref a0_near, .ref a0_free, .ref a0_uses, .int v0_items, .int v0_evenly, .int v0_palette, .int v0_share, .int v0_bigger, .int v0_bigNow])), (a0_uses, .inl (cI, 12, .inl w0_uses))]
abbrev us_Pai_use : List Cond := .code y_Pai_use prog_5_method_18_code 2 none :: gtbl
abbrev rm_Pai_use : Room := { frames := 0, cells := 0, slots := 0, locals := 0 }
def m_Pai_use (F : Nat) (v0_items : Int32) (v0_evenly : Int32) (v0_palette : Int32) (v0_share : Int32) (v0_bigger : Int32) (v0_bigNow : Int32) (w0_uses : Nat → Int32) (p1 : Int32) : Option (Int32 × (Nat → Int32)) :=
  gC (inb p1 12) (
  gC (inb p1 12) (
  gC (inb p1 12) (
  if ((upd w0_uses p1.toNatClampNeg ((w0_uses p1.toNatClampNeg) + 1)) p1.toNatClampNeg) ≤ v0_share then (
    some (v0_bigNow, upd w0_uses p1.toNatClampNeg ((w0_uses p1.toNatClampNeg) + 1))
  ) else (
    gB (v0_bigNow + 1) (fun f_5 =>
    some (f_5, upd w0_uses p1.toNatClampNeg ((w0_uses p1.toNatClampNeg) + 1)))
  ))))
set_option maxHeartbeats 4000000 in
set_option maxRecDepth 100000 in
theorem c_Pai_use (l : Launch) (dC : Nat → ClassId) (dI : Nat → Nat → Nat) (cI cJ cG cZ : ClassId) (a0 a0_paint a0_near a0_free a0_uses : Nat) (sz : Nat) (F : Nat) (v0_items : Int32) (v0_evenly : Int32) (v0_palette : Int32) (v0_share : Int32) (v0_bigger : Int32) (v0_bigNow : Int32) (w0_uses : Nat → Int32) (p1 : Int32) (o_v0_bigNow : Int32) (o_w0_uses : Nat → Int32) (hm : m_Pai_use F v0_items v0_evenly v0_palette v0_share v0_bigger v0_bigNow w0_uses p1 = some (o_v0_bigNow, o_w0_uses)) : Met l y_Pai_use us_Pai_use rm_Pai_use (PcS (dC, dI) (tyL cI cJ cG cZ) [.ref a0, .int p1] sz (wd_Pai_use cI cJ cG cZ a0 a0_paint a0_near a0_free a0_uses v0_items v0_evenly v0_palette v0_share v0_bigger v0_bigNow w0_uses)) (va_Qv (fun (_ : Unit) => True) (fun _ t => PoS (dC, dI) (tyL cI cJ cG cZ) (wd_Pai_use cI cJ cG cZ a0 a0_paint a0_near a0_free a0_uses v0_items v0_evenly v0_palette v0_share v0_bigger o_v0_bigNow o_w0_uses) (va_A (wd_Pai_use cI cJ cG cZ a0 a0_paint a0_near a0_free a0_uses v0_items v0_evenly v0_palette v0_share v0_bigger v0_bigNow w0_uses) sz) t) (va_A (wd_Pai_use cI cJ cG cZ a0 a0_paint a0_near a0_free a0_uses v0_items v0_evenly v0_palette v0_share v0_bigger v0_bigNow w0_uses) sz)) 0 0 (va_A (wd_Pai_use cI cJ cG cZ a0 a0_paint a0_near a0_free a0_uses v0_items v0_evenly v0_palette v0_share v0_bigger v0_bigNow w0_uses) sz) := by
  refine Met.ofW (cc := prog_5_method_18_code) (maxL := 2) (ret := none) (by decide) rfl ?_
  intro p e s m args below meth c s₁ B hml hv
  obtain ⟨rfl, hsz, hP, hK, hD0, hNw⟩ := hv
  have hx := B.exec
  have hb := B.bytes
  have hr := B.returns
  have htt : ∀ w ∈ gtbl, w.before _ s = true := fun w h => atoms_spec (ws := us_Pai_use) B.pre w (List.mem_cons_of_mem _ h)
  have hown : s.vm.findClass R_Pai = some m.cls := findClass_of_methodNamed B.named
  have hlocks := B.notSynchronized
  subst hsz
  have hD := hD0.self (sz := s.heap.size)
  generalize hAe : va_A (wd_Pai_use cI cJ cG cZ a0 a0_paint a0_near a0_free a0_uses v0_items v0_evenly v0_palette v0_share v0_bigger v0_bigNow w0_uses) s.heap.size = A at hD ⊢
  have hA : ∀ q : Nat, s.heap.size ≤ q → A q := fun q h => by rw [← hAe]; exact Or.inr h
  clear hAe hD0
  have hS : va_S A s.heap s.heap [] := va_S.rf
  have hl := lv_entry ([.ref a0, .int p1]) (n := 2) (Nat.le_of_ble_eq_true rfl)
  rw [lg_entry_eq]
  generalize (lg_sl ([.ref a0, .int p1]) ++ List.replicate (2 - (lg_sl ([.ref a0, .int p1])).length) Slot.unset).toArray = ls at hl ⊢
  have hl : lv_has ls 2 [(0, .ref a0), (1, .int p1)] := hl
  generalize hH : s.heap = H at hP ⊢
  have hS : va_S A s.heap H [] := hH ▸ hS
  generalize hLo : ([] : List Loc) = locs at hS ⊢
  clear hH hLo
  unfold m_Pai_use at hm
  refine lv_aload_n hx hb d_Pai_use_0 rfl (lv_at hl 0 rfl) ?_
  refine va_get (D := (dC, dI)) (ci := 2) (v := .ref a0_uses) (C := R_Pai) (T := T_Pai) (N := 10) hx hb htt hin_Pai hown hK hP 0 rfl rfl 3 (by decide) (htt _ kt_85) (fun _ h9 => h9) rfl d_Pai_use_1 ?_
  refine lv_iload_n hx hb d_Pai_use_4 rfl (lv_at hl 1 rfl) ?_
  refine lv_dup2_11 hx hb d_Pai_use_5 rfl rfl ?_
  obtain ⟨hi_1, hm⟩ := gC_e hm
  refine va_iald hx hb hK hP 1 0 rfl rfl (inb_vp hi_1) d_Pai_use_6 ?_
  refine lv_iconst (v := 1) hx hb d_Pai_use_7 (by decide) ?_
  refine lv_iadd hx hb d_Pai_use_8 ?_
  obtain ⟨hi_2, hm⟩ := gC_e hm
  refine va_iast hx hb hK hP hD hS 1 0 rfl rfl (inb_vp hi_2) d_Pai_use_9 (fun H locs hP hD hS => ?_)
  have hP : va_P (dC, dI) vwCl (wd_Pai_use cI cJ cG cZ a0 a0_paint a0_near a0_free a0_uses v0_items v0_evenly v0_palette v0_share v0_bigger v0_bigNow (upd w0_uses p1.toNatClampNeg ((w0_uses p1.toNatClampNeg) + 1))) H := hP
  have hD : va_D A (wd_Pai_use cI cJ cG cZ a0 a0_paint a0_near a0_free a0_uses v0_items v0_evenly v0_palette v0_share v0_bigger v0_bigNow (upd w0_uses p1.toNatClampNeg ((w0_uses p1.toNatClampNeg) + 1))) := hD
  refine lv_aload_n hx hb d_Pai_use_10 rfl (lv_at hl 0 rfl) ?_
  refine va_get (D := (dC, dI)) (ci := 2) (v := .ref a0_uses) (C := R_Pai) (T := T_Pai) (N := 10) hx hb htt hin_Pai hown hK hP 0 rfl rfl 3 (by decide) (htt _ kt_85) (fun _ h9 => h9) rfl d_Pai_use_11 ?_
  refine lv_iload_n hx hb d_Pai_use_14 rfl (lv_at hl 1 rfl) ?_
  obtain ⟨hi_3, hm⟩ := gC_e hm
  refine va_iald hx hb hK hP 1 0 rfl rfl (inb_vp hi_3) d_Pai_use_15 ?_
  refine lv_aload_n hx hb d_Pai_use_16 rfl (lv_at hl 0 rfl) ?_
  refine va_get (D := (dC, dI)) (ci := 2) (v := .int v0_share) (C := R_Pai) (T := T_Pai) (N := 10) hx hb htt hin_Pai hown hK hP 0 rfl rfl 7 (by decide) (htt _ kt_89) (fun _ h9 => h9) rfl d_Pai_use_17 ?_
  refine lv_icmp_le (tgt := 33) hx hb d_Pai_use_20 (by decide) (fun c_4 => ?_) (fun c_4 => ?_)
  · have hm := ite_t c_4 hm
    cases hm
    exact W.vret hx hb hr (fun t ht hW => ⟨⟨(), rfl, trivial, by rw [ht]; exact hP, va_K.moved hW.alike hK, hD⟩, hS.F ht⟩) hS.2.2 d_Pai_use_33
  · have hm := ite_f c_4 hm
    refine lv_aload_n hx hb d_Pai_use_23 rfl (lv_at hl 0 rfl) ?_
    refine lv_dup hx hb d_Pai_use_24 rfl ?_
    refine va_get (D := (dC, dI)) (ci := 2) (v := .int v0_bigNow) (C := R_Pai) (T := T_Pai) (N := 10) hx hb htt hin_Pai hown hK hP 0 rfl rfl 9 (by decide) (htt _ kt_91) (fun _ h9 => h9) rfl d_Pai_use_25 ?_
    refine lv_iconst (v := 1) hx hb d_Pai_use_28 (by decide) ?_
    refine lv_iadd hx hb d_Pai_use_29 ?_
    refine lv_topi (fun f_5 ef_5 => ?_)
    have hm := gB_at ef_5 hm
    refine va_put (D := (dC, dI)) (ci := 2) (v := .int f_5) (ty := .int) (C := R_Pai) (T := T_Pai) (N := 10) hx hb htt hin_Pai ty_Pai tyok_Pai nm_Pai hown hK hP hD hS 0 rfl rfl 9 (by decide) (htt _ kt_91) (fun _ h9 => h9) rfl (by decide +kernel) rfl rfl (Nat.le_of_ble_eq_true rfl) d_Pai_use_30 (fun H locs hP hD hS => ?_)
    have hP : va_P (dC, dI) vwCl (wd_Pai_use cI cJ cG cZ a0 a0_paint a0_near a0_free a0_uses v0_items v0_evenly v0_palette v0_share v0_bigger f_5 (upd w0_uses p1.toNatClampNeg ((w0_uses p1.toNatClampNeg) + 1))) H := hP
    have hD : va_D A (wd_Pai_use cI cJ cG cZ a0 a0_paint a0_near a0_free a0_uses v0_items v0_evenly v0_palette v0_share v0_bigger f_5 (upd w0_uses p1.toNatClampNeg ((w0_uses p1.toNatClampNeg) + 1))) := hD
    cases hm
    exact W.vret hx hb hr (fun t ht hW => ⟨⟨(), rfl, trivial, by rw [ht]; exact hP, va_K.moved hW.alike hK, hD⟩, hS.F ht⟩) hS.2.2 d_Pai_use_33
theorem d_Pai_spread_0 : decode prog_5_method_15_code 0 = .ok (.aload_n 0, 1) := by decide +kernel
theorem d_Pai_spread_1 : decode prog_5_method_15_code 1 = .ok (.getfield 20, 3) := by decide +kernel
theorem d_Pai_spread_4 : decode prog_5_method_15_code 4 = .ok (.iload_n 1, 1) := by decide +kernel
theorem d_Pai_spread_5 : decode prog_5_method_15_code 5 = .ok (.aaload, 1) := by decide +kernel
theorem d_Pai_spread_6 : decode prog_5_method_15_code 6 = .ok (.astore 5, 2) := by decide +kernel
theorem d_Pai_spread_8 : decode prog_5_method_15_code 8 = .ok (.aload_n 0, 1) := by decide +kernel
theorem d_Pai_spread_9 : decode prog_5_method_15_code 9 = .ok (.getfield 20, 3) := by decide +kernel
theorem d_Pai_spread_12 : decode prog_5_method_15_code 12 = .ok (.iload_n 1, 1) := by decide +kernel
theorem d_Pai_spread_13 : decode prog_5_method_15_code 13 = .ok (.iconst 1, 1) := by decide +kernel
theorem d_Pai_spread_14 : decode prog_5_method_15_code 14 = .ok (.iadd, 1) := by decide +kernel
theorem d_Pai_spread_15 : decode prog_5_method_15_code 15 = .ok (.aaload, 1) := by decide +kernel
theorem d_Pai_spread_16 : decode prog_5_method_15_code 16 = .ok (.astore 6, 2) := by decide +kernel
theorem d_Pai_spread_18 : decode prog_5_method_15_code 18 = .ok (.iconst 0, 1) := by decide +kernel
theorem d_Pai_spread_19 : decode prog_5_method_15_code 19 = .ok (.istore 7, 2) := by decide +kernel
theorem d_Pai_spread_21 : decode prog_5_method_15_code 21 = .ok (.iload 7, 2) := by decide +kernel
theorem d_Pai_spread_23 : decode prog_5_method_15_code 23 = .ok (.aload_n 0, 1) := by decide +kernel
theorem d_Pai_spread_24 : decode prog_5_method_15_code 24 = .ok (.getfield 58, 3) := by decide +kernel
theorem d_Pai_spread_27 : decode prog_5_method_15_code 27 = .ok (.if_icmp .ge 67, 3) := by decide +kernel
theorem d_Pai_spread_30 : decode prog_5_method_15_code 30 = .ok (.iload_n 2, 1) := by decide +kernel
theorem d_Pai_spread_31 : decode prog_5_method_15_code 31 = .ok (.iload 7, 2) := by decide +kernel
theorem d_Pai_spread_33 : decode prog_5_method_15_code 33 = .ok (.ishr, 1) := by decide +kernel
theorem d_Pai_spread_34 : decode prog_5_method_15_code 34 = .ok (.iconst 1, 1) := by decide +kernel
theorem d_Pai_spread_35 : decode prog_5_method_15_code 35 = .ok (.iand, 1) := by decide +kernel
theorem d_Pai_spread_36 : decode prog_5_method_15_code 36 = .ok (.ifCond .eq 52, 3) := by decide +kernel
theorem d_Pai_spread_39 : decode prog_5_method_15_code 39 = .ok (.aload 6, 2) := by decide +kernel
theorem d_Pai_spread_41 : decode prog_5_method_15_code 41 = .ok (.iload 7, 2) := by decide +kernel
theorem d_Pai_spread_43 : decode prog_5_method_15_code 43 = .ok (.aload_n 0, 1) := by decide +kernel
theorem d_Pai_spread_44 : decode prog_5_method_15_code 44 = .ok (.getfield 15, 3) := by decide +kernel
theorem d_Pai_spread_47 : decode prog_5_method_15_code 47 = .ok (.iload_n 3, 1) := by decide +kernel
theorem d_Pai_spread_48 : decode prog_5_method_15_code 48 = .ok (.iaload, 1) := by decide +kernel
theorem d_Pai_spread_49 : decode prog_5_method_15_code 49 = .ok (.iload 7, 2) := by decide +kernel
theorem d_Pai_spread_51 : decode prog_5_method_15_code 51 = .ok (.ishr, 1) := by decide +kernel
theorem d_Pai_spread_52 : decode prog_5_method_15_code 52 = .ok (.iconst 1, 1) := by decide +kernel
theorem d_Pai_spread_53 : decode prog_5_method_15_code 53 = .ok (.iand, 1) := by decide +kernel
theorem d_Pai_spread_54 : decode prog_5_method_15_code 54 = .ok (.ifCond .eq 18, 3) := by decide +kernel
theorem d_Pai_spread_57 : decode prog_5_method_15_code 57 = .ok (.aload 5, 2) := by decide +kernel
theorem d_Pai_spread_59 : decode prog_5_method_15_code 59 = .ok (.iload 7, 2) := by decide +kernel
theorem d_Pai_spread_61 : decode prog_5_method_15_code 61 = .ok (.iaload, 1) := by decide +kernel
theorem d_Pai_spread_62 : decode prog_5_method_15_code 62 = .ok (.iconst 1, 1) := by decide +kernel
theorem d_Pai_spread_63 : decode prog_5_method_15_code 63 = .ok (.iload 4, 2) := by decide +kernel
theorem d_Pai_spread_65 : decode prog_5_method_15_code 65 = .ok (.ishl, 1) := by decide +kernel
theorem d_Pai_spread_66 : decode prog_5_method_15_code 66 = .ok (.iconst (-1), 1) := by decide +kernel
theorem d_Pai_spread_67 : decode prog_5_method_15_code 67 = .ok (.ixor, 1) := by decide +kernel
theorem d_Pai_spread_68 : decode prog_5_method_15_code 68 = .ok (.iand, 1) := by decide +kernel
theorem d_Pai_spread_69 : decode prog_5_method_15_code 69 = .ok (.goto 8, 3) := by decide +kernel
theorem d_Pai_spread_72 : decode prog_5_method_15_code 72 = .ok (.aload 5, 2) := by decide +kernel
theorem d_Pai_spread_74 : decode prog_5_method_15_code 74 = .ok (.iload 7, 2) := by decide +kernel
theorem d_Pai_spread_76 : decode prog_5_method_15_code 76 = .ok (.iaload, 1) := by decide +kernel
theorem d_Pai_spread_77 : decode prog_5_method_15_code 77 = .ok (.iastore, 1) := by decide +kernel
theorem d_Pai_spread_78 : decode prog_5_method_15_code 78 = .ok (.aload 6, 2) := by decide +kernel
theorem d_Pai_spread_80 : decode prog_5_method_15_code 80 = .ok (.iload 7, 2) := by decide +kernel
theorem d_Pai_spread_82 : decode prog_5_method_15_code 82 = .ok (.iaload, 1) := by decide +kernel
theorem d_Pai_spread_83 : decode prog_5_method_15_code 83 = .ok (.ifCond .ne 5, 3) := by decide +kernel
theorem d_Pai_spread_86 : decode prog_5_method_15_code 86 = .ok (.iconst 0, 1) := by decide +kernel
theorem d_Pai_spread_87 : decode prog_5_method_15_code 87 = .ok (.ireturn, 1) := by decide +kernel
theorem d_Pai_spread_88 : decode prog_5_method_15_code 88 = .ok (.iinc 7 1, 3) := by decide +kernel
theorem d_Pai_spread_91 : decode prog_5_method_15_code 91 = .ok (.goto (-70), 3) := by decide +kernel
theorem d_Pai_spread_94 : decode prog_5_method_15_code 94 = .ok (.iconst 1, 1) := by decide +kernel
theorem d_Pai_spread_95 : decode prog_5_method_15_code 95 = .ok (.ireturn, 1) := by decide +kernel
abbrev wd_Pai_spread (cI cJ cG cZ : ClassId) (a0 a0_paint a0_near a0_free a0_uses : Nat) (r0_free : Nat → Nat) (v0_items : Int32) (v0_evenly : Int32) (v0_palette : Int32) (v0_share : Int32) (v0_bigger : Int32) (v0_bigNow : Int32) (w0_near : Nat → Int32) (w0_free : Nat → Nat → Int32) : va_W := [(a0, .inr (2, [.ref a0_paint, .ref a0_near, .ref a0_free, .ref a0_uses, .int v0_items, .int v0_evenly, .int v0_palette, .int v0_share, .int v0_bigger, .int v0_bigNow])), (a0_near, .inl (cI, 16, .inl w0_near)), (a0_free, .inl (cG, 18, .inr (.inr (.inr (.inr (gO r0_free 18))))))] ++ rowsW r0_free cI 16 18 w0_free
abbrev we_Pai_spread (cI cJ cG cZ : ClassId) (a0 a0_paint a0_near a0_free a0_uses : Nat) (r0_free : Nat → Nat) (v0_items : Int32) (v0_evenly : Int32) (v0_palette : Int32) (v0_share : Int32) (v0_bigger : Int32) (v0_bigNow : Int32) (w0_near : Nat → Int32) (w0_free : Nat → Nat → Int32) : va_W := [(a0, .inr (2, [.ref a0_paint, .ref a0_near, .ref a0_free, .ref a0_uses, .int v0_items, .int v0_evenly, .int v0_palette, .int v0_share, .int v0_bigger, .int v0_bigNow])), (a0_near, .inl (cI, 16, .inl w0_near)), (a0_free, .inl (cG, 18, .inr (.inr (.inr (.inr (gO r0_free 18))))))]
abbrev us_Pai_spread : List Cond := .code y_Pai_spread prog_5_method_15_code 8 (some .boolean) :: gtbl
abbrev rm_Pai_spread : Room := { frames := 0, cells := 0, slots := 0, locals := 0 }
def m_Pai_spread (F : Nat) (v0_items : Int32) (v0_evenly : Int32) (v0_palette : Int32) (v0_share : Int32) (v0_bigger : Int32) (v0_bigNow : Int32) (w0_near : Nat → Int32) (w0_free : Nat → Nat → Int32) (p1 : Int32) (p2 : Int32) (p3 : Int32) (p4 : Int32) : Option (Int32 × (Nat → Nat → Int32)) :=
  gC (inb p1 18) (
  gC (inb (p1 + 1) 18) (
  gL (fun (k_21 : (Int32 × (Nat → Nat → Int32)) → Option (Int32 × (Nat → Nat → Int32))) (z_21 : Int32 × (Nat → Nat → Int32)) => match z_21 with
  | (x7_5, w0_free_6) =>
  if v0_items ≤ x7_5 then (
    some (1, w0_free_6)
  ) else (
    if ((p2 >>> (x7_5 &&& 31)) &&& 1) = 0 then (
      gB (x7_5 + 1) (fun x7_9 =>
      k_21 (x7_9, w0_free_6))
    ) else (
      gC (inb p3 16) (
      gB (α := Int32 → Option (Int32 × (Nat → Nat → Int32))) (fun s_11 =>
        gC (inb x7_5 16) (
        gC (inb x7_5 16) (
        if ((gU w0_free_6 ((p1 + 1).toNatClampNeg) x7_5.toNatClampNeg s_11) ((p1 + 1).toNatClampNeg) x7_5.toNatClampNeg) = 0 then (
          some (0, gU w0_free_6 ((p1 + 1).toNatClampNeg) x7_5.toNatClampNeg s_11)
        ) else (
          gB (x7_5 + 1) (fun x7_15 =>
          k_21 (x7_15, gU w0_free_6 ((p1 + 1).toNatClampNeg) x7_5.toNatClampNeg s_11))
        )))
      ) (fun J_77 =>
      if (((w0_near p3.toNatClampNeg) >>> (x7_5 &&& 31)) &&& 1) = 0 then (
        gC (inb x7_5 16) (
        J_77 (w0_free_6 p1.toNatClampNeg x7_5.toNatClampNeg))
      ) else (
        gC (inb x7_5 16) (
        J_77 ((w0_free_6 p1.toNatClampNeg x7_5.toNatClampNeg) &&& (((1 : Int32) <<< (p4 &&& 31)) ^^^ (-1))))
      )
      ))
    )
  )
  ) F (0, w0_free)))
set_option maxHeartbeats 4000000 in
set_option maxRecDepth 100000 in
theorem c_Pai_spread (l : Launch) (dC : Nat → ClassId) (dI : Nat → Nat → Nat) (cI cJ cG cZ : ClassId) (a0 a0_paint a0_near a0_free a0_uses : Nat) (r0_free : Nat → Nat) (sz : Nat) (F : Nat) (v0_items : Int32) (v0_evenly : Int32) (v0_palette : Int32) (v0_share : Int32) (v0_bigger : Int32) (v0_bigNow : Int32) (w0_near : Nat → Int32) (w0_free : Nat → Nat → Int32) (p1 : Int32) (p2 : Int32) (p3 : Int32) (p4 : Int32) (ret : Int32) (o_w0_free : Nat → Nat → Int32) (hm : m_Pai_spread F v0_items v0_evenly v0_palette v0_share v0_bigger v0_bigNow w0_near w0_free p1 p2 p3 p4 = some (ret, o_w0_free)) : Met l y_Pai_spread us_Pai_spread rm_Pai_spread (PcS (dC, dI) (tyL cI cJ cG cZ) [.ref a0, .int p1, .int p2, .int p3, .int p4] sz (wd_Pai_spread cI cJ cG cZ a0 a0_paint a0_near a0_free a0_uses r0_free v0_items v0_evenly v0_palette v0_share v0_bigger v0_bigNow w0_near w0_free)) (va_Qi (fun (r : Int32) (_ : Unit) => ret = r ∧ bz r) (fun _ t => PoS (dC, dI) (tyL cI cJ cG cZ) (wd_Pai_spread cI cJ cG cZ a0 a0_paint a0_near a0_free a0_uses r0_free v0_items v0_evenly v0_palette v0_share v0_bigger v0_bigNow w0_near o_w0_free) (va_A (wd_Pai_spread cI cJ cG cZ a0 a0_paint a0_near a0_free a0_uses r0_free v0_items v0_evenly v0_palette v0_share v0_bigger v0_bigNow w0_near w0_free) sz) t) (va_A (wd_Pai_spread cI cJ cG cZ a0 a0_paint a0_near a0_free a0_uses r0_free v0_items v0_evenly v0_palette v0_share v0_bigger v0_bigNow w0_near w0_free) sz)) 0 0 (va_A (wd_Pai_spread cI cJ cG cZ a0 a0_paint a0_near a0_free a0_uses r0_free v0_items v0_evenly v0_palette v0_share v0_bigger v0_bigNow w0_near w0_free) sz) := by
  refine Met.ofW (cc := prog_5_method_15_code) (maxL := 8) (ret := (some .boolean)) (by decide) rfl ?_
  intro p e s m args below meth c s₁ B hml hv
  obtain ⟨rfl, hsz, hP, hK, hD0, hNw⟩ := hv
  have hx := B.exec
  have hb := B.bytes
  have hr := B.returns
  have htt : ∀ w ∈ gtbl, w.before _ s = true := fun w h => atoms_spec (ws := us_Pai_spread) B.pre w (List.mem_cons_of_mem _ h)
  have hown : s.vm.findClass R_Pai = some m.cls := findClass_of_methodNamed B.named
  have hlocks := B.notSynchronized
  subst hsz
  have hD := hD0.self (sz := s.heap.size)
  generalize hAe : va_A (wd_Pai_spread cI cJ cG cZ a0 a0_paint a0_near a0_free a0_uses r0_free v0_items v0_evenly v0_palette v0_share v0_bigger v0_bigNow w0_near w0_free) s.heap.size = A at hD ⊢
  have hA : ∀ q : Nat, s.heap.size ≤ q → A q := fun q h => by rw [← hAe]; exact Or.inr h
  clear hAe hD0
  have hS : va_S A s.heap s.heap [] := va_S.rf
  have hl := lv_entry ([.ref a0, .int p1, .int p2, .int p3, .int p4]) (n := 8) (Nat.le_of_ble_eq_true rfl)
  rw [lg_entry_eq]
  generalize (lg_sl ([.ref a0, .int p1, .int p2, .int p3, .int p4]) ++ List.replicate (8 - (lg_sl ([.ref a0, .int p1, .int p2, .int p3, .int p4])).length) Slot.unset).toArray = ls at hl ⊢
  have hl : lv_has ls 8 [(0, .ref a0), (1, .int p1), (2, .int p2), (3, .int p3), (4, .int p4)] := hl
  generalize hH : s.heap = H at hP ⊢
  have hS : va_S A s.heap H [] := hH ▸ hS
  generalize hLo : ([] : List Loc) = locs at hS ⊢
  clear hH hLo
  unfold m_Pai_spread at hm
  refine lv_aload_n hx hb d_Pai_spread_0 rfl (lv_at hl 0 rfl) ?_
  refine va_get (D := (dC, dI)) (ci := 2) (v := .ref a0_free) (C := R_Pai) (T := T_Pai) (N := 10) hx hb htt hin_Pai hown hK hP 0 rfl rfl 2 (by decide) (htt _ kt_84) (fun _ h9 => h9) rfl d_Pai_spread_1 ?_
  refine lv_iload_n hx hb d_Pai_spread_4 rfl (lv_at hl 1 rfl) ?_
  obtain ⟨hi_1, hm⟩ := gC_e hm
  have hj_2 := inb_lt hi_1
  refine gx_ald hx hb hK hP 2 2 rfl rfl (inb_vp hi_1) d_Pai_spread_5 ?_
  refine lv_astore (lv' := [(5, .ref (r0_free p1.toNatClampNeg)), (0, .ref a0), (1, .int p1), (2, .int p2), (3, .int p3), (4, .int p4)]) hx hb d_Pai_spread_6 hl (by decide) rfl (fun ls hl => ?_)
  refine lv_aload_n hx hb d_Pai_spread_8 rfl (lv_at hl 1 rfl) ?_
  refine va_get (D := (dC, dI)) (ci := 2) (v := .ref a0_free) (C := R_Pai) (T := T_Pai) (N := 10) hx hb htt hin_Pai hown hK hP 0 rfl rfl 2 (by decide) (htt _ kt_84) (fun _ h9 => h9) rfl d_Pai_spread_9 ?_
  refine lv_iload_n hx hb d_Pai_spread_12 rfl (lv_at hl 2 rfl) ?_
  refine lv_iconst (v := 1) hx hb d_Pai_spread_13 (by decide) ?_
  refine lv_iadd hx hb d_Pai_spread_14 ?_
  obtain ⟨hi_3, hm⟩ := gC_e hm
  have hj_4 := inb_lt hi_3
  refine gx_ald hx hb hK hP 2 2 rfl rfl (inb_vp hi_3) d_Pai_spread_15 ?_
  refine lv_astore (lv' := [(6, .ref (r0_free (p1 + 1).toNatClampNeg)), (5, .ref (r0_free p1.toNatClampNeg)), (0, .ref a0), (1, .int p1), (2, .int p2), (3, .int p3), (4, .int p4)]) hx hb d_Pai_spread_16 hl (by decide) rfl (fun ls hl => ?_)
  refine lv_iconst (v := 0) hx hb d_Pai_spread_18 (by decide) ?_
  refine lv_istore (lv' := [(7, .int 0), (6, .ref (r0_free (p1 + 1).toNatClampNeg)), (5, .ref (r0_free p1.toNatClampNeg)), (0, .ref a0), (1, .int p1), (2, .int p2), (3, .int p3), (4, .int p4)]) hx hb d_Pai_spread_19 hl (by decide) rfl (fun ls hl => ?_)
  refine gL_e (P := (fun (z_21 : Int32 × (Nat → Nat → Int32)) => ∀ (x7_5 : Int32), ∀ (w0_free_6 : Nat → Nat → Int32), z_21 = (x7_5, w0_free_6) → ∀ (ls : Array Slot) (H : Heap) (locs : List Loc), lv_has ls 8 [(0, .ref a0), (2, .int p2), (3, .int p3), (4, .int p4), (5, .ref (r0_free p1.toNatClampNeg)), (6, .ref (r0_free (p1 + 1).toNatClampNeg)), (7, .int x7_5)] → va_P (dC, dI) vwCl (wd_Pai_spread cI cJ cG cZ a0 a0_paint a0_near a0_free a0_uses r0_free v0_items v0_evenly v0_palette v0_share v0_bigger v0_bigNow w0_near w0_free_6) H → va_D A (wd_Pai_spread cI cJ cG cZ a0 a0_paint a0_near a0_free a0_uses r0_free v0_items v0_evenly v0_palette v0_share v0_bigger v0_bigNow w0_near w0_free_6) → va_S A s.heap H locs → W p l e (headSpec us_Pai_spread rm_Pai_spread).room s m ([.ref a0, .int p1, .int p2, .int p3, .int p4] : List Value).toArray below meth c H locs 0 0 (MQ below (va_Qi (fun (r : Int32) (_ : Unit) => ret = r ∧ bz r) (fun _ t => PoS (dC, dI) (tyL cI cJ cG cZ) (wd_Pai_spread cI cJ cG cZ a0 a0_paint a0_near a0_free a0_uses r0_free v0_items v0_evenly v0_palette v0_share v0_bigger v0_bigNow w0_near o_w0_free) A t) A) ([.ref a0, .int p1, .int p2, .int p3, .int p4] : List Value).toArray s 0 0 A) (F0 m 21 ls []))) hm (fun k_21 z_21 ih_21 hm => ?_) _ _ rfl ls H locs (lv_sub hl [3, 5, 6, 7, 2, 1, 0] rfl) hP hD hS
  intro x7_5 w0_free_6 hz ls H locs hl hP hD hS
  subst hz
  dsimp only at hm
  refine lv_iload hx hb d_Pai_spread_21 (lv_at hl 6 rfl) ?_
  refine lv_aload_n hx hb d_Pai_spread_23 rfl (lv_at hl 0 rfl) ?_
  refine va_get (D := (dC, dI)) (ci := 2) (v := .int v0_items) (C := R_Pai) (T := T_Pai) (N := 10) hx hb htt hin_Pai hown hK hP 0 rfl rfl 4 (by decide) (htt _ kt_86) (fun _ h9 => h9) rfl d_Pai_spread_24 ?_
  refine lv_icmp_ge (tgt := 94) hx hb d_Pai_spread_27 (by decide) (fun c_7 => ?_) (fun c_7 => ?_)
  · have hm := ite_t c_7 hm
    refine lv_iconst (v := 1) hx hb d_Pai_spread_94 (by decide) ?_
    cases hm
    exact W.zret (ty := .boolean) hx hb hr (bz_nar (by decide : bz 1)) (fun t ht hW => ⟨⟨_, (), rfl, ⟨rfl, (by decide : bz 1)⟩, by rw [ht]; exact hP, va_K.moved hW.alike hK, hD⟩, hS.F ht⟩) hS.2.2 d_Pai_spread_95
  · have hm := ite_f c_7 hm
    refine lv_iload_n hx hb d_Pai_spread_30 rfl (lv_at hl 1 rfl) ?_
    refine lv_iload hx hb d_Pai_spread_31 (lv_at hl 6 rfl) ?_
    refine lv_ishr hx hb d_Pai_spread_33 ?_
    refine lv_iconst (v := 1) hx hb d_Pai_spread_34 (by decide) ?_
    refine lv_iand hx hb d_Pai_spread_35 ?_
    refine lv_if_eq (tgt := 88) hx hb d_Pai_spread_36 (by decide) (fun c_8 => ?_) (fun c_8 => ?_)
    · have hm := ite_t c_8 hm
      obtain ⟨x7_9, ex7_9⟩ : ∃ y : Int32, y = x7_5 + 1 := ⟨_, rfl⟩
      have hm := gB_at ex7_9 hm
      refine lv_iinc (v := x7_9) (lv' := [(7, .int x7_9), (0, .ref a0), (2, .int p2), (3, .int p3), (4, .int p4), (5, .ref (r0_free p1.toNatClampNeg)), (6, .ref (r0_free (p1 + 1).toNatClampNeg))]) hx hb d_Pai_spread_88 hl (k := 6) rfl (by rw [ex7_9]; rfl) (by decide) rfl (fun ls hl => ?_)
      refine lv_goto (tgt := 21) hx hb d_Pai_spread_91 (by decide) ?_
      exact ih_21 _ hm _ _ rfl ls H locs (lv_sub hl [1, 2, 3, 4, 5, 6, 0] rfl) hP hD hS
    · have hm := ite_f c_8 hm
      refine lv_aload hx hb d_Pai_spread_39 (lv_at hl 5 rfl) ?_
      refine lv_iload hx hb d_Pai_spread_41 (lv_at hl 6 rfl) ?_
      refine lv_aload_n hx hb d_Pai_spread_43 rfl (lv_at hl 0 rfl) ?_
      refine va_get (D := (dC, dI)) (ci := 2) (v := .ref a0_near) (C := R_Pai) (T := T_Pai) (N := 10) hx hb htt hin_Pai hown hK hP 0 rfl rfl 1 (by decide) (htt _ kt_83) (fun _ h9 => h9) rfl d_Pai_spread_44 ?_
      refine lv_iload_n hx hb d_Pai_spread_47 rfl (lv_at hl 2 rfl) ?_
      obtain ⟨hi_10, hm⟩ := gC_e hm
      refine va_iald hx hb hK hP 1 0 rfl rfl (inb_vp hi_10) d_Pai_spread_48 ?_
      refine lv_iload hx hb d_Pai_spread_49 (lv_at hl 6 rfl) ?_
      refine lv_ishr hx hb d_Pai_spread_51 ?_
      refine lv_iconst (v := 1) hx hb d_Pai_spread_52 (by decide) ?_
      refine lv_iand hx hb d_Pai_spread_53 ?_
      obtain ⟨J_77, hJ_77, hm⟩ := gB_x hm
      have jp_77 : ∀ (s_11 : Int32) (ls : Array Slot) (H : Heap) (locs : List Loc), J_77 s_11 = some (ret, o_w0_free) → lv_has ls 8 [(0, .ref a0), (2, .int p2), (3, .int p3), (4, .int p4), (5, .ref (r0_free p1.toNatClampNeg)), (6, .ref (r0_free (p1 + 1).toNatClampNeg)), (7, .int x7_5)] → va_P (dC, dI) vwCl (wd_Pai_spread cI cJ cG cZ a0 a0_paint a0_near a0_free a0_uses r0_free v0_items v0_evenly v0_palette v0_share v0_bigger v0_bigNow w0_near w0_free_6) H → va_D A (wd_Pai_spread cI cJ cG cZ a0 a0_paint a0_near a0_free a0_uses r0_free v0_items v0_evenly v0_palette v0_share v0_bigger v0_bigNow w0_near w0_free_6) → va_S A s.heap H locs → W p l e (headSpec us_Pai_spread rm_Pai_spread).room s m ([.ref a0, .int p1, .int p2, .int p3, .int p4] : List Value).toArray below meth c H locs 0 0 (MQ below (va_Qi (fun (r : Int32) (_ : Unit) => ret = r ∧ bz r) (fun _ t => PoS (dC, dI) (tyL cI cJ cG cZ) (wd_Pai_spread cI cJ cG cZ a0 a0_paint a0_near a0_free a0_uses r0_free v0_items v0_evenly v0_palette v0_share v0_bigger v0_bigNow w0_near o_w0_free) A t) A) ([.ref a0, .int p1, .int p2, .int p3, .int p4] : List Value).toArray s 0 0 A) (F0 m 77 ls [.int s_11, .int x7_5, .ref (r0_free (p1 + 1).toNatClampNeg)]) := by
        intro s_11 ls H locs hm hl hP hD hS
        have hm := jn1 hJ_77 hm
        obtain ⟨hi_12, hm⟩ := gC_e hm
        refine va_iast hx hb hK hP hD hS (3 + (p1 + 1).toNatClampNeg) 0 (rows_get rfl hj_4) rfl (inb_vp hi_12) d_Pai_spread_77 (fun H locs hP hD hS => ?_)
        have hP := rows_setP rfl hP
        have hD := rows_setD rfl hD
        have hP : va_P (dC, dI) vwCl (wd_Pai_spread cI cJ cG cZ a0 a0_paint a0_near a0_free a0_uses r0_free v0_items v0_evenly v0_palette v0_share v0_bigger v0_bigNow w0_near (gU w0_free_6 ((p1 + 1).toNatClampNeg) x7_5.toNatClampNeg s_11)) H := hP
        have hD : va_D A (wd_Pai_spread cI cJ cG cZ a0 a0_paint a0_near a0_free a0_uses r0_free v0_items v0_evenly v0_palette v0_share v0_bigger v0_bigNow w0_near (gU w0_free_6 ((p1 + 1).toNatClampNeg) x7_5.toNatClampNeg s_11)) := hD
        refine lv_aload hx hb d_Pai_spread_78 (lv_at hl 5 rfl) ?_
        refine lv_iload hx hb d_Pai_spread_80 (lv_at hl 6 rfl) ?_
        obtain ⟨hi_13, hm⟩ := gC_e hm
        refine va_iald hx hb hK hP (3 + (p1 + 1).toNatClampNeg) 0 (rows_get rfl hj_4) rfl (inb_vp hi_13) d_Pai_spread_82 ?_
        refine lv_if_ne (tgt := 88) hx hb d_Pai_spread_83 (by decide) (fun c_14 => ?_) (fun c_14 => ?_)
        · have hm := ite_f c_14 hm
          obtain ⟨x7_15, ex7_15⟩ : ∃ y : Int32, y = x7_5 + 1 := ⟨_, rfl⟩
          have hm := gB_at ex7_15 hm
          refine lv_iinc (v := x7_15) (lv' := [(7, .int x7_15), (0, .ref a0), (2, .int p2), (3, .int p3), (4, .int p4), (5, .ref (r0_free p1.toNatClampNeg)), (6, .ref (r0_free (p1 + 1).toNatClampNeg))]) hx hb d_Pai_spread_88 hl (k := 6) rfl (by rw [ex7_15]; rfl) (by decide) rfl (fun ls hl => ?_)
          refine lv_goto (tgt := 21) hx hb d_Pai_spread_91 (by decide) ?_
          exact ih_21 _ hm _ _ rfl ls H locs (lv_sub hl [1, 2, 3, 4, 5, 6, 0] rfl) hP hD hS
        · have hm := ite_t c_14 hm
          refine lv_iconst (v := 0) hx hb d_Pai_spread_86 (by decide) ?_
          cases hm
          exact W.zret (ty := .boolean) hx hb hr (bz_nar (by decide : bz 0)) (fun t ht hW => ⟨⟨_, (), rfl, ⟨rfl, (by decide : bz 0)⟩, by rw [ht]; exact hP, va_K.moved hW.alike hK, hD⟩, hS.F ht⟩) hS.2.2 d_Pai_spread_87
      clear hJ_77
      refine lv_if_eq (tgt := 72) hx hb d_Pai_spread_54 (by decide) (fun c_16 => ?_) (fun c_16 => ?_)
      · have hm := ite_t c_16 hm
        refine lv_aload hx hb d_Pai_spread_72 (lv_at hl 4 rfl) ?_
        refine lv_iload hx hb d_Pai_spread_74 (lv_at hl 6 rfl) ?_
        obtain ⟨hi_17, hm⟩ := gC_e hm
        refine va_iald hx hb hK hP (3 + p1.toNatClampNeg) 0 (rows_get rfl hj_2) rfl (inb_vp hi_17) d_Pai_spread_76 ?_
        exact jp_77 _ ls H locs hm (lv_sub hl [0, 1, 2, 3, 4, 5, 6] rfl) hP hD hS
      · have hm := ite_f c_16 hm
        refine lv_aload hx hb d_Pai_spread_57 (lv_at hl 4 rfl) ?_
        refine lv_iload hx hb d_Pai_spread_59 (lv_at hl 6 rfl) ?_
        obtain ⟨hi_18, hm⟩ := gC_e hm
        refine va_iald hx hb hK hP (3 + p1.toNatClampNeg) 0 (rows_get rfl hj_2) rfl (inb_vp hi_18) d_Pai_spread_61 ?_
        refine lv_iconst (v := 1) hx hb d_Pai_spread_62 (by decide) ?_
        refine lv_iload hx hb d_Pai_spread_63 (lv_at hl 3 rfl) ?_
        refine lv_ishl hx hb d_Pai_spread_65 ?_
        refine lv_iconst (v := (-1)) hx hb d_Pai_spread_66 (by decide) ?_
        refine lv_ixor hx hb d_Pai_spread_67 ?_
        refine lv_iand hx hb d_Pai_spread_68 ?_
        refine lv_goto (tgt := 77) hx hb d_Pai_spread_69 (by decide) ?_
        exact jp_77 _ ls H locs hm (lv_sub hl [0, 1, 2, 3, 4, 5, 6] rfl) hP hD hS
theorem d_Pai_unuse_0 : decode prog_5_method_19_code 0 = .ok (.aload_n 0, 1) := by decide +kernel
theorem d_Pai_unuse_1 : decode prog_5_method_19_code 1 = .ok (.getfield 23, 3) := by decide +kernel
theorem d_Pai_unuse_4 : decode prog_5_method_19_code 4 = .ok (.iload_n 1, 1) := by decide +kernel
theorem d_Pai_unuse_5 : decode prog_5_method_19_code 5 = .ok (.iaload, 1) := by decide +kernel
theorem d_Pai_unuse_6 : decode prog_5_method_19_code 6 = .ok (.aload_n 0, 1) := by decide +kernel
theorem d_Pai_unuse_7 : decode prog_5_method_19_code 7 = .ok (.getfield 74, 3) := by decide +kernel
theorem d_Pai_unuse_10 : decode prog_5_method_19_code 10 = .ok (.if_icmp .le 13, 3) := by decide +kernel
theorem d_Pai_unuse_13 : decode prog_5_method_19_code 13 = .ok (.aload_n 0, 1) := by decide +kernel
theorem d_Pai_unuse_14 : decode prog_5_method_19_code 14 = .ok (.dup, 1) := by decide +kernel
theorem d_Pai_unuse_15 : decode prog_5_method_19_code 15 = .ok (.getfield 80, 3) := by decide +kernel
theorem d_Pai_unuse_18 : decode prog_5_method_19_code 18 = .ok (.iconst 1, 1) := by decide +kernel
theorem d_Pai_unuse_19 : decode prog_5_method_19_code 19 = .ok (.isub, 1) := by decide +kernel
theorem d_Pai_unuse_20 : decode prog_5_method_19_code 20 = .ok (.putfield 80, 3) := by decide +kernel
theorem d_Pai_unuse_23 : decode prog_5_method_19_code 23 = .ok (.aload_n 0, 1) := by decide +kernel
theorem d_Pai_unuse_24 : decode prog_5_method_19_code 24 = .ok (.getfield 23, 3) := by decide +kernel
theorem d_Pai_unuse_27 : decode prog_5_method_19_code 27 = .ok (.iload_n 1, 1) := by decide +kernel
theorem d_Pai_unuse_28 : decode prog_5_method_19_code 28 = .ok (.dup2, 1) := by decide +kernel
theorem d_Pai_unuse_29 : decode prog_5_method_19_code 29 = .ok (.iaload, 1) := by decide +kernel
theorem d_Pai_unuse_30 : decode prog_5_method_19_code 30 = .ok (.iconst 1, 1) := by decide +kernel
theorem d_Pai_unuse_31 : decode prog_5_method_19_code 31 = .ok (.isub, 1) := by decide +kernel
theorem d_Pai_unuse_32 : decode prog_5_method_19_code 32 = .ok (.iastore, 1) := by decide +kernel
theorem d_Pai_unuse_33 : decode prog_5_method_19_code 33 = .ok (.return_, 1) := by decide +kernel
abbrev wd_Pai_unuse (cI cJ cG cZ : ClassId) (a0 a0_paint a0_near a0_free a0_uses : Nat) (v0_items : Int32) (v0_evenly : Int32) (v0_palette : Int32) (v0_share : Int32) (v0_bigger : Int32) (v0_bigNow : Int32) (w0_uses : Nat → Int32) : va_W := [(a0, .inr (2, [.ref a0_paint, .ref a0_near, .ref a0_free, .ref a0_uses, .int v0_items, .int v0_evenly, .int v0_palette, .int v0_share, .int v0_bigger, .int v0_bigNow])), (a0_uses, .inl (cI, 12, .inl w0_uses))]
abbrev us_Pai_unuse : List Cond := .code y_Pai_unuse prog_5_method_19_code 2 none :: gtbl
abbrev rm_Pai_unuse : Room := { frames := 0, cells := 0, slots := 0, locals := 0 }
def m_Pai_unuse (F : Nat) (v0_items : Int32) (v0_evenly : Int32) (v0_palette : Int32) (v0_share : Int32) (v0_bigger : Int32) (v0_bigNow : Int32) (w0_uses : Nat → Int32) (p1 : Int32) : Option (Int32 × (Nat → Int32)) :=
  gC (inb p1 12) (
  gB (α := Int32 → Option (Int32 × (Nat → Int32))) (fun v0_bigNow_2 =>
    gC (inb p1 12) (
    gC (inb p1 12) (
    some (v0_bigNow_2, upd w0_uses p1.toNatClampNeg ((w0_uses p1.toNatClampNeg) - 1))))
  ) (fun J_23 =>
  if (w0_uses p1.toNatClampNeg) ≤ v0_share then (
    J_23 v0_bigNow
  ) else (
    gB (v0_bigNow - 1) (fun f_6 =>
    J_23 f_6)
  )
  ))
set_option maxHeartbeats 4000000 in
set_option maxRecDepth 100000 in
theorem c_Pai_unuse (l : Launch) (dC : Nat → ClassId) (dI : Nat → Nat → Nat) (cI cJ cG cZ : ClassId) (a0 a0_paint a0_near a0_free a0_uses : Nat) (sz : Nat) (F : Nat) (v0_items : Int32) (v0_evenly : Int32) (v0_palette : Int32) (v0_share : Int32) (v0_bigger : Int32) (v0_bigNow : Int32) (w0_uses : Nat → Int32) (p1 : Int32) (o_v0_bigNow : Int32) (o_w0_uses : Nat → Int32) (hm : m_Pai_unuse F v0_items v0_evenly v0_palette v0_share v0_bigger v0_bigNow w0_uses p1 = some (o_v0_bigNow, o_w0_uses)) : Met l y_Pai_unuse us_Pai_unuse rm_Pai_unuse (PcS (dC, dI) (tyL cI cJ cG cZ) [.ref a0, .int p1] sz (wd_Pai_unuse cI cJ cG cZ a0 a0_paint a0_near a0_free a0_uses v0_items v0_evenly v0_palette v0_share v0_bigger v0_bigNow w0_uses)) (va_Qv (fun (_ : Unit) => True) (fun _ t => PoS (dC, dI) (tyL cI cJ cG cZ) (wd_Pai_unuse cI cJ cG cZ a0 a0_paint a0_near a0_free a0_uses v0_items v0_evenly v0_palette v0_share v0_bigger o_v0_bigNow o_w0_uses) (va_A (wd_Pai_unuse cI cJ cG cZ a0 a0_paint a0_near a0_free a0_uses v0_items v0_evenly v0_palette v0_share v0_bigger v0_bigNow w0_uses) sz) t) (va_A (wd_Pai_unuse cI cJ cG cZ a0 a0_paint a0_near a0_free a0_uses v0_items v0_evenly v0_palette v0_share v0_bigger v0_bigNow w0_uses) sz)) 0 0 (va_A (wd_Pai_unuse cI cJ cG cZ a0 a0_paint a0_near a0_free a0_uses v0_items v0_evenly v0_palette v0_share v0_bigger v0_bigNow w0_uses) sz) := by
  refine Met.ofW (cc := prog_5_method_19_code) (maxL := 2) (ret := none) (by decide) rfl ?_
  intro p e s m args below meth c s₁ B hml hv
  obtain ⟨rfl, hsz, hP, hK, hD0, hNw⟩ := hv
  have hx := B.exec
  have hb := B.bytes
  have hr := B.returns
  have htt : ∀ w ∈ gtbl, w.before _ s = true := fun w h => atoms_spec (ws := us_Pai_unuse) B.pre w (List.mem_cons_of_mem _ h)
  have hown : s.vm.findClass R_Pai = some m.cls := findClass_of_methodNamed B.named
  have hlocks := B.notSynchronized
  subst hsz
  have hD := hD0.self (sz := s.heap.size)
  generalize hAe : va_A (wd_Pai_unuse cI cJ cG cZ a0 a0_paint a0_near a0_free a0_uses v0_items v0_evenly v0_palette v0_share v0_bigger v0_bigNow w0_uses) s.heap.size = A at hD ⊢
  have hA : ∀ q : Nat, s.heap.size ≤ q → A q := fun q h => by rw [← hAe]; exact Or.inr h
  clear hAe hD0
  have hS : va_S A s.heap s.heap [] := va_S.rf
  have hl := lv_entry ([.ref a0, .int p1]) (n := 2) (Nat.le_of_ble_eq_true rfl)
  rw [lg_entry_eq]
  generalize (lg_sl ([.ref a0, .int p1]) ++ List.replicate (2 - (lg_sl ([.ref a0, .int p1])).length) Slot.unset).toArray = ls at hl ⊢
  have hl : lv_has ls 2 [(0, .ref a0), (1, .int p1)] := hl
  generalize hH : s.heap = H at hP ⊢
  have hS : va_S A s.heap H [] := hH ▸ hS
  generalize hLo : ([] : List Loc) = locs at hS ⊢
  clear hH hLo
  unfold m_Pai_unuse at hm
  refine lv_aload_n hx hb d_Pai_unuse_0 rfl (lv_at hl 0 rfl) ?_
  refine va_get (D := (dC, dI)) (ci := 2) (v := .ref a0_uses) (C := R_Pai) (T := T_Pai) (N := 10) hx hb htt hin_Pai hown hK hP 0 rfl rfl 3 (by decide) (htt _ kt_85) (fun _ h9 => h9) rfl d_Pai_unuse_1 ?_
  refine lv_iload_n hx hb d_Pai_unuse_4 rfl (lv_at hl 1 rfl) ?_
  obtain ⟨hi_1, hm⟩ := gC_e hm
  refine va_iald hx hb hK hP 1 0 rfl rfl (inb_vp hi_1) d_Pai_unuse_5 ?_
  refine lv_aload_n hx hb d_Pai_unuse_6 rfl (lv_at hl 0 rfl) ?_
  refine va_get (D := (dC, dI)) (ci := 2) (v := .int v0_share) (C := R_Pai) (T := T_Pai) (N := 10) hx hb htt hin_Pai hown hK hP 0 rfl rfl 7 (by decide) (htt _ kt_89) (fun _ h9 => h9) rfl d_Pai_unuse_7 ?_
  obtain ⟨J_23, hJ_23, hm⟩ := gB_x hm
  have jp_23 : ∀ (v0_bigNow_2 : Int32) (ls : Array Slot) (H : Heap) (locs : List Loc), J_23 v0_bigNow_2 = some (o_v0_bigNow, o_w0_uses) → lv_has ls 2 [(0, .ref a0), (1, .int p1)] → va_P (dC, dI) vwCl (wd_Pai_unuse cI cJ cG cZ a0 a0_paint a0_near a0_free a0_uses v0_items v0_evenly v0_palette v0_share v0_bigger v0_bigNow_2 w0_uses) H → va_D A (wd_Pai_unuse cI cJ cG cZ a0 a0_paint a0_near a0_free a0_uses v0_items v0_evenly v0_palette v0_share v0_bigger v0_bigNow_2 w0_uses) → va_S A s.heap H locs → W p l e (headSpec us_Pai_unuse rm_Pai_unuse).room s m ([.ref a0, .int p1] : List Value).toArray below meth c H locs 0 0 (MQ below (va_Qv (fun (_ : Unit) => True) (fun _ t => PoS (dC, dI) (tyL cI cJ cG cZ) (wd_Pai_unuse cI cJ cG cZ a0 a0_paint a0_near a0_free a0_uses v0_items v0_evenly v0_palette v0_share v0_bigger o_v0_bigNow o_w0_uses) A t) A) ([.ref a0, .int p1] : List Value).toArray s 0 0 A) (F0 m 23 ls []) := by
    intro v0_bigNow_2 ls H locs hm hl hP hD hS
    have hm := jn1 hJ_23 hm
    refine lv_aload_n hx hb d_Pai_unuse_23 rfl (lv_at hl 0 rfl) ?_
    refine va_get (D := (dC, dI)) (ci := 2) (v := .ref a0_uses) (C := R_Pai) (T := T_Pai) (N := 10) hx hb htt hin_Pai hown hK hP 0 rfl rfl 3 (by decide) (htt _ kt_85) (fun _ h9 => h9) rfl d_Pai_unuse_24 ?_
    refine lv_iload_n hx hb d_Pai_unuse_27 rfl (lv_at hl 1 rfl) ?_
    refine lv_dup2_11 hx hb d_Pai_unuse_28 rfl rfl ?_
    obtain ⟨hi_3, hm⟩ := gC_e hm
    refine va_iald hx hb hK hP 1 0 rfl rfl (inb_vp hi_3) d_Pai_unuse_29 ?_
    refine lv_iconst (v := 1) hx hb d_Pai_unuse_30 (by decide) ?_
    refine lv_isub hx hb d_Pai_unuse_31 ?_
    obtain ⟨hi_4, hm⟩ := gC_e hm
    refine va_iast hx hb hK hP hD hS 1 0 rfl rfl (inb_vp hi_4) d_Pai_unuse_32 (fun H locs hP hD hS => ?_)
    have hP : va_P (dC, dI) vwCl (wd_Pai_unuse cI cJ cG cZ a0 a0_paint a0_near a0_free a0_uses v0_items v0_evenly v0_palette v0_share v0_bigger v0_bigNow_2 (upd w0_uses p1.toNatClampNeg ((w0_uses p1.toNatClampNeg) - 1))) H := hP
    have hD : va_D A (wd_Pai_unuse cI cJ cG cZ a0 a0_paint a0_near a0_free a0_uses v0_items v0_evenly v0_palette v0_share v0_bigger v0_bigNow_2 (upd w0_uses p1.toNatClampNeg ((w0_uses p1.toNatClampNeg) - 1))) := hD
    cases hm
    exact W.vret hx hb hr (fun t ht hW => ⟨⟨(), rfl, trivial, by rw [ht]; exact hP, va_K.moved hW.alike hK, hD⟩, hS.F ht⟩) hS.2.2 d_Pai_unuse_33
  clear hJ_23
  refine lv_icmp_le (tgt := 23) hx hb d_Pai_unuse_10 (by decide) (fun c_5 => ?_) (fun c_5 => ?_)
  · have hm := ite_t c_5 hm
    exact jp_23 _ ls H locs hm (lv_sub hl [0, 1] rfl) hP hD hS
  · have hm := ite_f c_5 hm
    refine lv_aload_n hx hb d_Pai_unuse_13 rfl (lv_at hl 0 rfl) ?_
    refine lv_dup hx hb d_Pai_unuse_14 rfl ?_
    refine va_get (D := (dC, dI)) (ci := 2) (v := .int v0_bigNow) (C := R_Pai) (T := T_Pai) (N := 10) hx hb htt hin_Pai hown hK hP 0 rfl rfl 9 (by decide) (htt _ kt_91) (fun _ h9 => h9) rfl d_Pai_unuse_15 ?_
    refine lv_iconst (v := 1) hx hb d_Pai_unuse_18 (by decide) ?_
    refine lv_isub hx hb d_Pai_unuse_19 ?_
    refine lv_topi (fun f_6 ef_6 => ?_)
    have hm := gB_at ef_6 hm
    refine va_put (D := (dC, dI)) (ci := 2) (v := .int f_6) (ty := .int) (C := R_Pai) (T := T_Pai) (N := 10) hx hb htt hin_Pai ty_Pai tyok_Pai nm_Pai hown hK hP hD hS 0 rfl rfl 9 (by decide) (htt _ kt_91) (fun _ h9 => h9) rfl (by decide +kernel) rfl rfl (Nat.le_of_ble_eq_true rfl) d_Pai_unuse_20 (fun H locs hP hD hS => ?_)
    have hP : va_P (dC, dI) vwCl (wd_Pai_unuse cI cJ cG cZ a0 a0_paint a0_near a0_free a0_uses v0_items v0_evenly v0_palette v0_share v0_bigger f_6 w0_uses) H := hP
    have hD : va_D A (wd_Pai_unuse cI cJ cG cZ a0 a0_paint a0_near a0_free a0_uses v0_items v0_evenly v0_palette v0_share v0_bigger f_6 w0_uses) := hD
    exact jp_23 _ ls H locs hm (lv_sub hl [0, 1] rfl) hP hD hS
