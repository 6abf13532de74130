theorem d_SF_grow_0 : decode prog_7_method_5_code 0 = .ok (.iload_n 1, 1) := by decide +kernel
theorem d_SF_grow_1 : decode prog_7_method_5_code 1 = .ok (.aload_n 0, 1) := by decide +kernel
theorem d_SF_grow_2 : decode prog_7_method_5_code 2 = .ok (.getfield 38, 3) := by decide +kernel
theorem d_SF_grow_5 : decode prog_7_method_5_code 5 = .ok (.invokestatic 45, 3) := by decide +kernel
theorem d_SF_grow_8 : decode prog_7_method_5_code 8 = .ok (.if_icmp .le 8, 3) := by decide +kernel
theorem d_SF_grow_11 : decode prog_7_method_5_code 11 = .ok (.aload_n 0, 1) := by decide +kernel
theorem d_SF_grow_12 : decode prog_7_method_5_code 12 = .ok (.iload_n 2, 1) := by decide +kernel
theorem d_SF_grow_13 : decode prog_7_method_5_code 13 = .ok (.putfield 38, 3) := by decide +kernel
theorem d_SF_grow_16 : decode prog_7_method_5_code 16 = .ok (.iload_n 3, 1) := by decide +kernel
theorem d_SF_grow_17 : decode prog_7_method_5_code 17 = .ok (.istore 4, 2) := by decide +kernel
theorem d_SF_grow_19 : decode prog_7_method_5_code 19 = .ok (.iconst 0, 1) := by decide +kernel
theorem d_SF_grow_20 : decode prog_7_method_5_code 20 = .ok (.istore 5, 2) := by decide +kernel
theorem d_SF_grow_22 : decode prog_7_method_5_code 22 = .ok (.iload 5, 2) := by decide +kernel
theorem d_SF_grow_24 : decode prog_7_method_5_code 24 = .ok (.bipush 12, 2) := by decide +kernel
theorem d_SF_grow_26 : decode prog_7_method_5_code 26 = .ok (.if_icmp .ge 77, 3) := by decide +kernel
theorem d_SF_grow_29 : decode prog_7_method_5_code 29 = .ok (.iload_n 1, 1) := by decide +kernel
theorem d_SF_grow_30 : decode prog_7_method_5_code 30 = .ok (.bipush 12, 2) := by decide +kernel
theorem d_SF_grow_32 : decode prog_7_method_5_code 32 = .ok (.if_icmp .ge 71, 3) := by decide +kernel
theorem d_SF_grow_35 : decode prog_7_method_5_code 35 = .ok (.iload_n 1, 1) := by decide +kernel
theorem d_SF_grow_36 : decode prog_7_method_5_code 36 = .ok (.iload 4, 2) := by decide +kernel
theorem d_SF_grow_38 : decode prog_7_method_5_code 38 = .ok (.invokestatic 45, 3) := by decide +kernel
theorem d_SF_grow_41 : decode prog_7_method_5_code 41 = .ok (.iadd, 1) := by decide +kernel
theorem d_SF_grow_42 : decode prog_7_method_5_code 42 = .ok (.aload_n 0, 1) := by decide +kernel
theorem d_SF_grow_43 : decode prog_7_method_5_code 43 = .ok (.getfield 38, 3) := by decide +kernel
theorem d_SF_grow_46 : decode prog_7_method_5_code 46 = .ok (.invokestatic 45, 3) := by decide +kernel
theorem d_SF_grow_49 : decode prog_7_method_5_code 49 = .ok (.if_icmp .gt 4, 3) := by decide +kernel
theorem d_SF_grow_52 : decode prog_7_method_5_code 52 = .ok (.return_, 1) := by decide +kernel
theorem d_SF_grow_53 : decode prog_7_method_5_code 53 = .ok (.iload 4, 2) := by decide +kernel
theorem d_SF_grow_55 : decode prog_7_method_5_code 55 = .ok (.iload 5, 2) := by decide +kernel
theorem d_SF_grow_57 : decode prog_7_method_5_code 57 = .ok (.ishr, 1) := by decide +kernel
theorem d_SF_grow_58 : decode prog_7_method_5_code 58 = .ok (.iconst 1, 1) := by decide +kernel
theorem d_SF_grow_59 : decode prog_7_method_5_code 59 = .ok (.iand, 1) := by decide +kernel
theorem d_SF_grow_60 : decode prog_7_method_5_code 60 = .ok (.ifCond .eq 37, 3) := by decide +kernel
theorem d_SF_grow_63 : decode prog_7_method_5_code 63 = .ok (.iload 4, 2) := by decide +kernel
theorem d_SF_grow_65 : decode prog_7_method_5_code 65 = .ok (.iconst 1, 1) := by decide +kernel
theorem d_SF_grow_66 : decode prog_7_method_5_code 66 = .ok (.iload 5, 2) := by decide +kernel
theorem d_SF_grow_68 : decode prog_7_method_5_code 68 = .ok (.ishl, 1) := by decide +kernel
theorem d_SF_grow_69 : decode prog_7_method_5_code 69 = .ok (.iconst (-1), 1) := by decide +kernel
theorem d_SF_grow_70 : decode prog_7_method_5_code 70 = .ok (.ixor, 1) := by decide +kernel
theorem d_SF_grow_71 : decode prog_7_method_5_code 71 = .ok (.iand, 1) := by decide +kernel
theorem d_SF_grow_72 : decode prog_7_method_5_code 72 = .ok (.istore 4, 2) := by decide +kernel
theorem d_SF_grow_74 : decode prog_7_method_5_code 74 = .ok (.aload_n 0, 1) := by decide +kernel
theorem d_SF_grow_75 : decode prog_7_method_5_code 75 = .ok (.iload_n 1, 1) := by decide +kernel
theorem d_SF_grow_76 : decode prog_7_method_5_code 76 = .ok (.iconst 1, 1) := by decide +kernel
theorem d_SF_grow_77 : decode prog_7_method_5_code 77 = .ok (.iadd, 1) := by decide +kernel
theorem d_SF_grow_78 : decode prog_7_method_5_code 78 = .ok (.iload_n 2, 1) := by decide +kernel
theorem d_SF_grow_79 : decode prog_7_method_5_code 79 = .ok (.iconst 1, 1) := by decide +kernel
theorem d_SF_grow_80 : decode prog_7_method_5_code 80 = .ok (.iload 5, 2) := by decide +kernel
theorem d_SF_grow_82 : decode prog_7_method_5_code 82 = .ok (.ishl, 1) := by decide +kernel
theorem d_SF_grow_83 : decode prog_7_method_5_code 83 = .ok (.ior, 1) := by decide +kernel
theorem d_SF_grow_84 : decode prog_7_method_5_code 84 = .ok (.iload 4, 2) := by decide +kernel
theorem d_SF_grow_86 : decode prog_7_method_5_code 86 = .ok (.aload_n 0, 1) := by decide +kernel
theorem d_SF_grow_87 : decode prog_7_method_5_code 87 = .ok (.getfield 9, 3) := by decide +kernel
theorem d_SF_grow_90 : decode prog_7_method_5_code 90 = .ok (.iload 5, 2) := by decide +kernel
theorem d_SF_grow_92 : decode prog_7_method_5_code 92 = .ok (.iaload, 1) := by decide +kernel
theorem d_SF_grow_93 : decode prog_7_method_5_code 93 = .ok (.iand, 1) := by decide +kernel
theorem d_SF_grow_94 : decode prog_7_method_5_code 94 = .ok (.invokevirtual 41, 3) := by decide +kernel
theorem d_SF_grow_97 : decode prog_7_method_5_code 97 = .ok (.iinc 5 1, 3) := by decide +kernel
theorem d_SF_grow_100 : decode prog_7_method_5_code 100 = .ok (.goto (-78), 3) := by decide +kernel
theorem d_SF_grow_103 : decode prog_7_method_5_code 103 = .ok (.return_, 1) := by decide +kernel
abbrev wd_SF_grow (cI cJ cG cZ : ClassId) (a0 a0_fits : Nat) (v0_best : Int32) (w0_fits : Nat → Int32) : va_W := [(a0, .inr (5, [.ref a0_fits, .int v0_best])), (a0_fits, .inl (cI, 12, .inl w0_fits))]
abbrev us_SF_grow : List Cond := .code y_SF_grow prog_7_method_5_code 6 none :: gtbl
abbrev rm_SF_grow (d : Nat) : Room := { frames := d + 1, cells := 0, slots := 0, locals := d * 25 + 30 }
def m_SF_grow (F : Nat) : Nat → Int32 → (Nat → Int32) → Int32 → Int32 → Int32 → Option (Int32)
  | 0 => fun _ _ _ _ _ => none
  | d + 1 => fun v0_best w0_fits p1 p2 p3 =>
    gB (α := Int32 → Option (Int32)) (fun v0_best_1 =>
      gL (fun (k_22 : (Int32 × Int32 × Int32) → Option (Int32)) (z_22 : Int32 × Int32 × Int32) => match z_22 with
      | (x4_2, x5_3, v0_best_4) =>
      if (12 : Int32) ≤ x5_3 then (
        some v0_best_4
      ) else (
        if (12 : Int32) ≤ p1 then (
          some v0_best_4
        ) else (
          if (bitc v0_best_4) < (p1 + (bitc x4_2)) then (
            if ((x4_2 >>> (x5_3 &&& 31)) &&& 1) = 0 then (
              gB (x5_3 + 1) (fun x5_9 =>
              k_22 (x4_2, x5_9, v0_best_4))
            ) else (
              gB (x4_2 &&& (((1 : Int32) <<< (x5_3 &&& 31)) ^^^ (-1))) (fun x4_10 =>
              gC (inb x5_3 12) (
              gM (m_SF_grow F d v0_best_4 w0_fits (p1 + 1) (p2 ||| ((1 : Int32) <<< (x5_3 &&& 31))) (x4_10 &&& (w0_fits x5_3.toNatClampNeg))) (fun v0_best_12 =>
              gB (x5_3 + 1) (fun x5_14 =>
              k_22 (x4_10, x5_14, v0_best_12)))))
            )
          ) else (
            some v0_best_4
          )
        )
      )
      ) F (p3, 0, v0_best_1)
    ) (fun J_16 =>
    if p1 ≤ (bitc v0_best) then (
      J_16 v0_best
    ) else (
      J_16 p2
    )
    )
theorem mr_SF_grow_s {F d : Nat} {v0_best : Int32} {w0_fits : Nat → Int32} {p1 : Int32} {p2 : Int32} {p3 : Int32} {r : Int32} (h : m_SF_grow F (d + 1) v0_best w0_fits p1 p2 p3 = some r) : (
    gB (α := Int32 → Option (Int32)) (fun v0_best_1 =>
      gL (fun (k_22 : (Int32 × Int32 × Int32) → Option (Int32)) (z_22 : Int32 × Int32 × Int32) => match z_22 with
      | (x4_2, x5_3, v0_best_4) =>
      if (12 : Int32) ≤ x5_3 then (
        some v0_best_4
      ) else (
        if (12 : Int32) ≤ p1 then (
          some v0_best_4
        ) else (
          if (bitc v0_best_4) < (p1 + (bitc x4_2)) then (
            if ((x4_2 >>> (x5_3 &&& 31)) &&& 1) = 0 then (
              gB (x5_3 + 1) (fun x5_9 =>
              k_22 (x4_2, x5_9, v0_best_4))
            ) else (
              gB (x4_2 &&& (((1 : Int32) <<< (x5_3 &&& 31)) ^^^ (-1))) (fun x4_10 =>
              gC (inb x5_3 12) (
              gM (m_SF_grow F d v0_best_4 w0_fits (p1 + 1) (p2 ||| ((1 : Int32) <<< (x5_3 &&& 31))) (x4_10 &&& (w0_fits x5_3.toNatClampNeg))) (fun v0_best_12 =>
              gB (x5_3 + 1) (fun x5_14 =>
              k_22 (x4_10, x5_14, v0_best_12)))))
            )
          ) else (
            some v0_best_4
          )
        )
      )
      ) F (p3, 0, v0_best_1)
    ) (fun J_16 =>
    if p1 ≤ (bitc v0_best) then (
      J_16 v0_best
    ) else (
      J_16 p2
    )
    )
  ) = some r := h
set_option maxHeartbeats 4000000 in
set_option maxRecDepth 100000 in
theorem cr_SF_grow (l : Launch) (dC : Nat → ClassId) (dI : Nat → Nat → Nat) (cI cJ cG cZ : ClassId) (F : Nat) : ∀ (d : Nat) (a0 a0_fits : Nat) (sz : Nat) (v0_best : Int32) (w0_fits : Nat → Int32) (p1 : Int32) (p2 : Int32) (p3 : Int32) (o_v0_best : Int32), m_SF_grow F d v0_best w0_fits p1 p2 p3 = some o_v0_best → Met l y_SF_grow us_SF_grow (rm_SF_grow d) (PcS (dC, dI) (tyL cI cJ cG cZ) [.ref a0, .int p1, .int p2, .int p3] sz (wd_SF_grow cI cJ cG cZ a0 a0_fits v0_best w0_fits)) (va_Qv (fun (_ : Unit) => True) (fun _ t => PoS (dC, dI) (tyL cI cJ cG cZ) (wd_SF_grow cI cJ cG cZ a0 a0_fits o_v0_best w0_fits) (va_A (wd_SF_grow cI cJ cG cZ a0 a0_fits v0_best w0_fits) sz) t) (va_A (wd_SF_grow cI cJ cG cZ a0 a0_fits v0_best w0_fits) sz)) 0 0 (va_A (wd_SF_grow cI cJ cG cZ a0 a0_fits v0_best w0_fits) sz) := by
  intro d
  induction d with
  | zero => intro a0 a0_fits sz v0_best w0_fits p1 p2 p3 o_v0_best hm; exact absurd hm (by intro h; cases h)
  | succ d ihd =>
    intro a0 a0_fits sz v0_best w0_fits p1 p2 p3 o_v0_best hm
    refine Met.ofW (cc := prog_7_method_5_code) (maxL := 6) (ret := none) (by decide) rfl ?_
    intro p e s m args below meth c s₁ B hml hv
    obtain ⟨rfl, hsz, hP, hK, hD0, hNw⟩ := hv
    have hx := B.exec
    have hb := B.bytes
    have hr := B.returns
    have htt : ∀ w ∈ gtbl, w.before _ s = true := fun w h => atoms_spec (ws := us_SF_grow) B.pre w (List.mem_cons_of_mem _ h)
    have hown : s.vm.findClass R_SF = some m.cls := findClass_of_methodNamed B.named
    have hlocks := B.notSynchronized
    subst hsz
    have hD := hD0.self (sz := s.heap.size)
    generalize hAe : va_A (wd_SF_grow cI cJ cG cZ a0 a0_fits v0_best w0_fits) s.heap.size = A at hD ⊢
    have hA : ∀ q : Nat, s.heap.size ≤ q → A q := fun q h => by rw [← hAe]; exact Or.inr h
    clear hAe hD0
    have hS : va_S A s.heap s.heap [] := va_S.rf
    have hl := lv_entry ([.ref a0, .int p1, .int p2, .int p3]) (n := 6) (Nat.le_of_ble_eq_true rfl)
    rw [lg_entry_eq]
    generalize (lg_sl ([.ref a0, .int p1, .int p2, .int p3]) ++ List.replicate (6 - (lg_sl ([.ref a0, .int p1, .int p2, .int p3])).length) Slot.unset).toArray = ls at hl ⊢
    have hl : lv_has ls 6 [(0, .ref a0), (1, .int p1), (2, .int p2), (3, .int p3)] := hl
    generalize hH : s.heap = H at hP ⊢
    have hS : va_S A s.heap H [] := hH ▸ hS
    generalize hLo : ([] : List Loc) = locs at hS ⊢
    clear hH hLo
    have hm := mr_SF_grow_s hm
    refine lv_iload_n hx hb d_SF_grow_0 rfl (lv_at hl 1 rfl) ?_
    refine lv_aload_n hx hb d_SF_grow_1 rfl (lv_at hl 0 rfl) ?_
    refine va_get (D := (dC, dI)) (ci := 5) (v := .int v0_best) (C := R_SF) (T := T_SF) (N := 2) hx hb htt hin_SF hown hK hP 0 rfl rfl 1 (by decide) (htt _ kt_181) (fun _ h9 => h9) rfl d_SF_grow_2 ?_
    refine gx_bit hx hb hml hown htt kt_548 hK hNw hP hD hS hA hl.1 (lv_room (Nat.le_of_ble_eq_true rfl)) (by show 1 ≤ d + 1 + 1; omega) (by show 20 ≤ (d + 1) * 25 + 30; omega) (Nat.zero_le _) (Nat.zero_le _) d_SF_grow_5 (fun H locs hP hD hS => ?_)
    obtain ⟨J_16, hJ_16, hm⟩ := gB_x hm
    have jp_16 : ∀ (v0_best_1 : Int32) (ls : Array Slot) (H : Heap) (locs : List Loc), J_16 v0_best_1 = some o_v0_best → lv_has ls 6 [(0, .ref a0), (1, .int p1), (2, .int p2), (3, .int p3)] → va_P (dC, dI) vwCl (wd_SF_grow cI cJ cG cZ a0 a0_fits v0_best_1 w0_fits) H → va_D A (wd_SF_grow cI cJ cG cZ a0 a0_fits v0_best_1 w0_fits) → va_S A s.heap H locs → W p l e (headSpec us_SF_grow (rm_SF_grow (d + 1))).room s m ([.ref a0, .int p1, .int p2, .int p3] : List Value).toArray below meth c H locs 0 0 (MQ below (va_Qv (fun (_ : Unit) => True) (fun _ t => PoS (dC, dI) (tyL cI cJ cG cZ) (wd_SF_grow cI cJ cG cZ a0 a0_fits o_v0_best w0_fits) A t) A) ([.ref a0, .int p1, .int p2, .int p3] : List Value).toArray s 0 0 A) (F0 m 16 ls []) := by
      intro v0_best_1 ls H locs hm hl hP hD hS
      have hm := jn1 hJ_16 hm
      refine lv_iload_n hx hb d_SF_grow_16 rfl (lv_at hl 3 rfl) ?_
      refine lv_istore (lv' := [(4, .int p3), (0, .ref a0), (1, .int p1), (2, .int p2), (3, .int p3)]) hx hb d_SF_grow_17 hl (by decide) rfl (fun ls hl => ?_)
      refine lv_iconst (v := 0) hx hb d_SF_grow_19 (by decide) ?_
      refine lv_istore (lv' := [(5, .int 0), (4, .int p3), (0, .ref a0), (1, .int p1), (2, .int p2), (3, .int p3)]) hx hb d_SF_grow_20 hl (by decide) rfl (fun ls hl => ?_)
      refine gL_e (P := (fun (z_22 : Int32 × Int32 × Int32) => ∀ (x4_2 : Int32), ∀ (x5_3 : Int32), ∀ (v0_best_4 : Int32), z_22 = (x4_2, x5_3, v0_best_4) → ∀ (ls : Array Slot) (H : Heap) (locs : List Loc), lv_has ls 6 [(0, .ref a0), (1, .int p1), (2, .int p2), (4, .int x4_2), (5, .int x5_3)] → va_P (dC, dI) vwCl (wd_SF_grow cI cJ cG cZ a0 a0_fits v0_best_4 w0_fits) H → va_D A (wd_SF_grow cI cJ cG cZ a0 a0_fits v0_best_4 w0_fits) → va_S A s.heap H locs → W p l e (headSpec us_SF_grow (rm_SF_grow (d + 1))).room s m ([.ref a0, .int p1, .int p2, .int p3] : List Value).toArray below meth c H locs 0 0 (MQ below (va_Qv (fun (_ : Unit) => True) (fun _ t => PoS (dC, dI) (tyL cI cJ cG cZ) (wd_SF_grow cI cJ cG cZ a0 a0_fits o_v0_best w0_fits) A t) A) ([.ref a0, .int p1, .int p2, .int p3] : List Value).toArray s 0 0 A) (F0 m 22 ls []))) hm (fun k_22 z_22 ih_22 hm => ?_) _ _ _ rfl ls H locs (lv_sub hl [2, 3, 4, 1, 0] rfl) hP hD hS
      intro x4_2 x5_3 v0_best_4 hz ls H locs hl hP hD hS
      subst hz
      dsimp only at hm
      refine lv_iload hx hb d_SF_grow_22 (lv_at hl 4 rfl) ?_
      refine lv_bipush (v := 12) hx hb d_SF_grow_24 (by decide) ?_
      refine lv_icmp_ge (tgt := 103) hx hb d_SF_grow_26 (by decide) (fun c_5 => ?_) (fun c_5 => ?_)
      · have hm := ite_t c_5 hm
        cases hm
        exact W.vret hx hb hr (fun t ht hW => ⟨⟨(), rfl, trivial, by rw [ht]; exact hP, va_K.moved hW.alike hK, hD⟩, hS.F ht⟩) hS.2.2 d_SF_grow_103
      · have hm := ite_f c_5 hm
        refine lv_iload_n hx hb d_SF_grow_29 rfl (lv_at hl 1 rfl) ?_
        refine lv_bipush (v := 12) hx hb d_SF_grow_30 (by decide) ?_
        refine lv_icmp_ge (tgt := 103) hx hb d_SF_grow_32 (by decide) (fun c_6 => ?_) (fun c_6 => ?_)
        · have hm := ite_t c_6 hm
          cases hm
          exact W.vret hx hb hr (fun t ht hW => ⟨⟨(), rfl, trivial, by rw [ht]; exact hP, va_K.moved hW.alike hK, hD⟩, hS.F ht⟩) hS.2.2 d_SF_grow_103
        · have hm := ite_f c_6 hm
          refine lv_iload_n hx hb d_SF_grow_35 rfl (lv_at hl 1 rfl) ?_
          refine lv_iload hx hb d_SF_grow_36 (lv_at hl 3 rfl) ?_
          refine gx_bit hx hb hml hown htt kt_548 hK hNw hP hD hS hA hl.1 (lv_room (Nat.le_of_ble_eq_true rfl)) (by show 1 ≤ d + 1 + 1; omega) (by show 20 ≤ (d + 1) * 25 + 30; omega) (Nat.zero_le _) (Nat.zero_le _) d_SF_grow_38 (fun H locs hP hD hS => ?_)
          refine lv_iadd hx hb d_SF_grow_41 ?_
          refine lv_aload_n hx hb d_SF_grow_42 rfl (lv_at hl 0 rfl) ?_
          refine va_get (D := (dC, dI)) (ci := 5) (v := .int v0_best_4) (C := R_SF) (T := T_SF) (N := 2) hx hb htt hin_SF hown hK hP 0 rfl rfl 1 (by decide) (htt _ kt_181) (fun _ h9 => h9) rfl d_SF_grow_43 ?_
          refine gx_bit hx hb hml hown htt kt_548 hK hNw hP hD hS hA hl.1 (lv_room (Nat.le_of_ble_eq_true rfl)) (by show 1 ≤ d + 1 + 1; omega) (by show 20 ≤ (d + 1) * 25 + 30; omega) (Nat.zero_le _) (Nat.zero_le _) d_SF_grow_46 (fun H locs hP hD hS => ?_)
          refine lv_icmp_gt (tgt := 53) hx hb d_SF_grow_49 (by decide) (fun c_7 => ?_) (fun c_7 => ?_)
          · have hm := ite_t c_7 hm
            refine lv_iload hx hb d_SF_grow_53 (lv_at hl 3 rfl) ?_
            refine lv_iload hx hb d_SF_grow_55 (lv_at hl 4 rfl) ?_
            refine lv_ishr hx hb d_SF_grow_57 ?_
            refine lv_iconst (v := 1) hx hb d_SF_grow_58 (by decide) ?_
            refine lv_iand hx hb d_SF_grow_59 ?_
            refine lv_if_eq (tgt := 97) hx hb d_SF_grow_60 (by decide) (fun c_8 => ?_) (fun c_8 => ?_)
            · have hm := ite_t c_8 hm
              obtain ⟨x5_9, ex5_9⟩ : ∃ y : Int32, y = x5_3 + 1 := ⟨_, rfl⟩
              have hm := gB_at ex5_9 hm
              refine lv_iinc (v := x5_9) (lv' := [(5, .int x5_9), (0, .ref a0), (1, .int p1), (2, .int p2), (4, .int x4_2)]) hx hb d_SF_grow_97 hl (k := 4) rfl (by rw [ex5_9]; rfl) (by decide) rfl (fun ls hl => ?_)
              refine lv_goto (tgt := 22) hx hb d_SF_grow_100 (by decide) ?_
              exact ih_22 _ hm _ _ _ rfl ls H locs (lv_sub hl [1, 2, 3, 4, 0] rfl) hP hD hS
            · have hm := ite_f c_8 hm
              refine lv_iload hx hb d_SF_grow_63 (lv_at hl 3 rfl) ?_
              refine lv_iconst (v := 1) hx hb d_SF_grow_65 (by decide) ?_
              refine lv_iload hx hb d_SF_grow_66 (lv_at hl 4 rfl) ?_
              refine lv_ishl hx hb d_SF_grow_68 ?_
              refine lv_iconst (v := (-1)) hx hb d_SF_grow_69 (by decide) ?_
              refine lv_ixor hx hb d_SF_grow_70 ?_
              refine lv_iand hx hb d_SF_grow_71 ?_
              refine lv_topi (fun x4_10 ex4_10 => ?_)
              have hm := gB_at ex4_10 hm
              refine lv_istore (lv' := [(4, .int x4_10), (0, .ref a0), (1, .int p1), (2, .int p2), (5, .int x5_3)]) hx hb d_SF_grow_72 hl (by decide) rfl (fun ls hl => ?_)
              refine lv_aload_n hx hb d_SF_grow_74 rfl (lv_at hl 1 rfl) ?_
              refine lv_iload_n hx hb d_SF_grow_75 rfl (lv_at hl 2 rfl) ?_
              refine lv_iconst (v := 1) hx hb d_SF_grow_76 (by decide) ?_
              refine lv_iadd hx hb d_SF_grow_77 ?_
              refine lv_iload_n hx hb d_SF_grow_78 rfl (lv_at hl 3 rfl) ?_
              refine lv_iconst (v := 1) hx hb d_SF_grow_79 (by decide) ?_
              refine lv_iload hx hb d_SF_grow_80 (lv_at hl 4 rfl) ?_
              refine lv_ishl hx hb d_SF_grow_82 ?_
              refine lv_ior hx hb d_SF_grow_83 ?_
              refine lv_iload hx hb d_SF_grow_84 (lv_at hl 0 rfl) ?_
              refine lv_aload_n hx hb d_SF_grow_86 rfl (lv_at hl 1 rfl) ?_
              refine va_get (D := (dC, dI)) (ci := 5) (v := .ref a0_fits) (C := R_SF) (T := T_SF) (N := 2) hx hb htt hin_SF hown hK hP 0 rfl rfl 0 (by decide) (htt _ kt_180) (fun _ h9 => h9) rfl d_SF_grow_87 ?_
              refine lv_iload hx hb d_SF_grow_90 (lv_at hl 4 rfl) ?_
              obtain ⟨hi_11, hm⟩ := gC_e hm
              refine va_iald hx hb hK hP 1 0 rfl rfl (inb_vp hi_11) d_SF_grow_92 ?_
              refine lv_iand hx hb d_SF_grow_93 ?_
              obtain ⟨v0_best_12, hc_13, hm⟩ := gM_e hm
              have hPc : va_P (dC, dI) vwCl (wd_SF_grow cI cJ cG cZ a0 a0_fits v0_best_4 w0_fits) H := hP.sub [0, 1] rfl
              have hDc : va_D A (wd_SF_grow cI cJ cG cZ a0 a0_fits v0_best_4 w0_fits) := hD.sub [0, 1] (by decide) rfl
              have hFc : ∀ q, va_A (wd_SF_grow cI cJ cG cZ a0 a0_fits v0_best_4 w0_fits) H.size q → A q := va_free hD hS hA [0, 1] rfl
              refine va_callv (va_runV (As := [.int (p1 + 1), .int (p2 ||| ((1 : Int32) <<< (x5_3 &&& 31))), .int (x4_10 &&& (w0_fits x5_3.toNatClampNeg))]) (rest := []) ⟨hx, hb, hml, hown, htt⟩ (ihd a0 a0_fits H.size v0_best_4 w0_fits (p1 + 1) (p2 ||| ((1 : Int32) <<< (x5_3 &&& 31))) (x4_10 &&& (w0_fits x5_3.toNatClampNeg)) v0_best_12 hc_13) (cwV 3 htt (gdV kt_544 kt_546 kp_33 kt_6 kt_547) rfl rfl rfl (by decide +kernel) ⟨(by show d + 1 + 1 ≤ d + 1 + 1; omega), (by show 8 + (6 + 11) + (d * 25 + 30) ≤ (d + 1) * 25 + 30; omega)⟩) ⟨PcS_blind, va_recv hK hPc (ci := 5) (q0 := 0) rfl rfl, PcS_in hPc hK hDc hNw⟩ rfl rfl hl.1 rfl (lv_room (Nat.le_of_ble_eq_true rfl)) d_SF_grow_94 ⟨Nat.zero_le _, Nat.zero_le _⟩) hS (fun q _ h => hFc q h) hFc (fun u t H1 locs ht hvm hw hB hz1 hk1 hS => ?_)
              obtain ⟨hP1, hK1, hD1⟩ := hB
              rw [ht] at hP1
              obtain ⟨hP, hD⟩ := va_join (wr := []) (w1 := (wd_SF_grow cI cJ cG cZ a0 a0_fits v0_best_12 w0_fits)) hP hD [0, 1] [] rfl rfl (by decide) (by decide) hk1 hFc hP1 hD1
              have hP : va_P (dC, dI) vwCl (wd_SF_grow cI cJ cG cZ a0 a0_fits v0_best_12 w0_fits) H1 := hP.sub [0, 1] rfl
              have hD : va_D A (wd_SF_grow cI cJ cG cZ a0 a0_fits v0_best_12 w0_fits) := hD.sub [0, 1] (by decide) rfl
              clear hP1 hK1 hD1 hk1 hPc hDc hFc ht hvm hz1
              generalize H1 = H at hP hS ⊢
              obtain ⟨x5_14, ex5_14⟩ : ∃ y : Int32, y = x5_3 + 1 := ⟨_, rfl⟩
              have hm := gB_at ex5_14 hm
              refine lv_iinc (v := x5_14) (lv' := [(5, .int x5_14), (4, .int x4_10), (0, .ref a0), (1, .int p1), (2, .int p2)]) hx hb d_SF_grow_97 hl (k := 4) rfl (by rw [ex5_14]; rfl) (by decide) rfl (fun ls hl => ?_)
              refine lv_goto (tgt := 22) hx hb d_SF_grow_100 (by decide) ?_
              exact ih_22 _ hm _ _ _ rfl ls H locs (lv_sub hl [2, 3, 4, 1, 0] rfl) hP hD hS
          · have hm := ite_f c_7 hm
            cases hm
            exact W.vret hx hb hr (fun t ht hW => ⟨⟨(), rfl, trivial, by rw [ht]; exact hP, va_K.moved hW.alike hK, hD⟩, hS.F ht⟩) hS.2.2 d_SF_grow_52
    clear hJ_16
    refine lv_icmp_le (tgt := 16) hx hb d_SF_grow_8 (by decide) (fun c_15 => ?_) (fun c_15 => ?_)
    · have hm := ite_t c_15 hm
      exact jp_16 _ ls H locs hm (lv_sub hl [0, 1, 2, 3] rfl) hP hD hS
    · have hm := ite_f c_15 hm
      refine lv_aload_n hx hb d_SF_grow_11 rfl (lv_at hl 0 rfl) ?_
      refine lv_iload_n hx hb d_SF_grow_12 rfl (lv_at hl 2 rfl) ?_
      refine va_put (D := (dC, dI)) (ci := 5) (v := .int p2) (ty := .int) (C := R_SF) (T := T_SF) (N := 2) hx hb htt hin_SF ty_SF tyok_SF nm_SF hown hK hP hD hS 0 rfl rfl 1 (by decide) (htt _ kt_181) (fun _ h9 => h9) rfl (by decide +kernel) rfl rfl (Nat.le_of_ble_eq_true rfl) d_SF_grow_13 (fun H locs hP hD hS => ?_)
      have hP : va_P (dC, dI) vwCl (wd_SF_grow cI cJ cG cZ a0 a0_fits p2 w0_fits) H := hP
      have hD : va_D A (wd_SF_grow cI cJ cG cZ a0 a0_fits p2 w0_fits) := hD
      exact jp_16 _ ls H locs hm (lv_sub hl [0, 1, 2, 3] rfl) hP hD hS
theorem c_SF_grow (l : Launch) (dC : Nat → ClassId) (dI : Nat → Nat → Nat) (cI cJ cG cZ : ClassId) (a0 a0_fits : Nat) (sz : Nat) (F d : Nat) (v0_best : Int32) (w0_fits : Nat → Int32) (p1 : Int32) (p2 : Int32) (p3 : Int32) (o_v0_best : Int32) (hm : m_SF_grow F d v0_best w0_fits p1 p2 p3 = some o_v0_best) : Met l y_SF_grow us_SF_grow (rm_SF_grow d) (PcS (dC, dI) (tyL cI cJ cG cZ) [.ref a0, .int p1, .int p2, .int p3] sz (wd_SF_grow cI cJ cG cZ a0 a0_fits v0_best w0_fits)) (va_Qv (fun (_ : Unit) => True) (fun _ t => PoS (dC, dI) (tyL cI cJ cG cZ) (wd_SF_grow cI cJ cG cZ a0 a0_fits o_v0_best w0_fits) (va_A (wd_SF_grow cI cJ cG cZ a0 a0_fits v0_best w0_fits) sz) t) (va_A (wd_SF_grow cI cJ cG cZ a0 a0_fits v0_best w0_fits) sz)) 0 0 (va_A (wd_SF_grow cI cJ cG cZ a0 a0_fits v0_best w0_fits) sz) := cr_SF_grow l dC dI cI cJ cG cZ F d a0 a0_fits sz v0_best w0_fits p1 p2 p3 o_v0_best hm
theorem d_SF_greatest_0 : decode prog_7_method_4_code 0 = .ok (.aload_n 0, 1) := by decide +kernel
theorem d_SF_greatest_1 : decode prog_7_method_4_code 1 = .ok (.iconst 0, 1) := by decide +kernel
theorem d_SF_greatest_2 : decode prog_7_method_4_code 2 = .ok (.putfield 38, 3) := by decide +kernel
theorem d_SF_greatest_5 : decode prog_7_method_4_code 5 = .ok (.aload_n 0, 1) := by decide +kernel
theorem d_SF_greatest_6 : decode prog_7_method_4_code 6 = .ok (.iconst 0, 1) := by decide +kernel
theorem d_SF_greatest_7 : decode prog_7_method_4_code 7 = .ok (.iconst 0, 1) := by decide +kernel
theorem d_SF_greatest_8 : decode prog_7_method_4_code 8 = .ok (.iload_n 1, 1) := by decide +kernel
theorem d_SF_greatest_9 : decode prog_7_method_4_code 9 = .ok (.invokevirtual 41, 3) := by decide +kernel
theorem d_SF_greatest_12 : decode prog_7_method_4_code 12 = .ok (.aload_n 0, 1) := by decide +kernel
theorem d_SF_greatest_13 : decode prog_7_method_4_code 13 = .ok (.getfield 38, 3) := by decide +kernel
theorem d_SF_greatest_16 : decode prog_7_method_4_code 16 = .ok (.ireturn, 1) := by decide +kernel
abbrev wd_SF_greatest (cI cJ cG cZ : ClassId) (a0 a0_fits : Nat) (v0_best : Int32) (w0_fits : Nat → Int32) : va_W := [(a0, .inr (5, [.ref a0_fits, .int v0_best])), (a0_fits, .inl (cI, 12, .inl w0_fits))]
abbrev us_SF_greatest : List Cond := .code y_SF_greatest prog_7_method_4_code 2 (some .int) :: gtbl
abbrev rm_SF_greatest : Room := { frames := 16, cells := 0, slots := 0, locals := 405 }
def m_SF_greatest (F : Nat) (v0_best : Int32) (w0_fits : Nat → Int32) (p1 : Int32) : Option (Int32 × Int32) :=
  gM (m_SF_grow F 14 0 w0_fits (0 : Int32) (0 : Int32) p1) (fun v0_best_1 =>
  some (v0_best_1, v0_best_1))
set_option maxHeartbeats 4000000 in
set_option maxRecDepth 100000 in
theorem c_SF_greatest (l : Launch) (dC : Nat → ClassId) (dI : Nat → Nat → Nat) (cI cJ cG cZ : ClassId) (a0 a0_fits : Nat) (sz : Nat) (F : Nat) (v0_best : Int32) (w0_fits : Nat → Int32) (p1 : Int32) (ret : Int32) (o_v0_best : Int32) (hm : m_SF_greatest F v0_best w0_fits p1 = some (ret, o_v0_best)) : Met l y_SF_greatest us_SF_greatest rm_SF_greatest (PcS (dC, dI) (tyL cI cJ cG cZ) [.ref a0, .int p1] sz (wd_SF_greatest cI cJ cG cZ a0 a0_fits v0_best w0_fits)) (va_Qi (fun (r : Int32) (_ : Unit) => ret = r) (fun _ t => PoS (dC, dI) (tyL cI cJ cG cZ) (wd_SF_greatest cI cJ cG cZ a0 a0_fits o_v0_best w0_fits) (va_A (wd_SF_greatest cI cJ cG cZ a0 a0_fits v0_best w0_fits) sz) t) (va_A (wd_SF_greatest cI cJ cG cZ a0 a0_fits v0_best w0_fits) sz)) 0 0 (va_A (wd_SF_greatest cI cJ cG cZ a0 a0_fits v0_best w0_fits) sz) := by
  refine Met.ofW (cc := prog_7_method_4_code) (maxL := 2) (ret := (some .int)) (by decide) rfl ?_
  intro p e s m args below meth c s₁ B hml hv
  obtain ⟨rfl, hsz, hP, hK, hD0, hNw⟩ := hv
  have hx := B.exec
  have hb := B.bytes
  have hr := B.returns
  have htt : ∀ w ∈ gtbl, w.before _ s = true := fun w h => atoms_spec (ws := us_SF_greatest) B.pre w (List.mem_cons_of_mem _ h)
  have hown : s.vm.findClass R_SF = some m.cls := findClass_of_methodNamed B.named
  have hlocks := B.notSynchronized
  subst hsz
  have hD := hD0.self (sz := s.heap.size)
  generalize hAe : va_A (wd_SF_greatest cI cJ cG cZ a0 a0_fits v0_best w0_fits) s.heap.size = A at hD ⊢
  have hA : ∀ q : Nat, s.heap.size ≤ q → A q := fun q h => by rw [← hAe]; exact Or.inr h
  clear hAe hD0
  have hS : va_S A s.heap s.heap [] := va_S.rf
  have hl := lv_entry ([.ref a0, .int p1]) (n := 2) (Nat.le_of_ble_eq_true rfl)
  rw [lg_entry_eq]
  generalize (lg_sl ([.ref a0, .int p1]) ++ List.replicate (2 - (lg_sl ([.ref a0, .int p1])).length) Slot.unset).toArray = ls at hl ⊢
  have hl : lv_has ls 2 [(0, .ref a0), (1, .int p1)] := hl
  generalize hH : s.heap = H at hP ⊢
  have hS : va_S A s.heap H [] := hH ▸ hS
  generalize hLo : ([] : List Loc) = locs at hS ⊢
  clear hH hLo
  unfold m_SF_greatest at hm
  refine lv_aload_n hx hb d_SF_greatest_0 rfl (lv_at hl 0 rfl) ?_
  refine lv_iconst (v := 0) hx hb d_SF_greatest_1 (by decide) ?_
  refine va_put (D := (dC, dI)) (ci := 5) (v := .int 0) (ty := .int) (C := R_SF) (T := T_SF) (N := 2) hx hb htt hin_SF ty_SF tyok_SF nm_SF hown hK hP hD hS 0 rfl rfl 1 (by decide) (htt _ kt_181) (fun _ h9 => h9) rfl (by decide +kernel) rfl rfl (Nat.le_of_ble_eq_true rfl) d_SF_greatest_2 (fun H locs hP hD hS => ?_)
  have hP : va_P (dC, dI) vwCl (wd_SF_greatest cI cJ cG cZ a0 a0_fits 0 w0_fits) H := hP
  have hD : va_D A (wd_SF_greatest cI cJ cG cZ a0 a0_fits 0 w0_fits) := hD
  refine lv_aload_n hx hb d_SF_greatest_5 rfl (lv_at hl 0 rfl) ?_
  refine lv_iconst (v := 0) hx hb d_SF_greatest_6 (by decide) ?_
  refine lv_iconst (v := 0) hx hb d_SF_greatest_7 (by decide) ?_
  refine lv_iload_n hx hb d_SF_greatest_8 rfl (lv_at hl 1 rfl) ?_
  obtain ⟨v0_best_1, hc_2, hm⟩ := gM_e hm
  have hPc : va_P (dC, dI) vwCl (wd_SF_grow cI cJ cG cZ a0 a0_fits 0 w0_fits) H := hP.sub [0, 1] rfl
  have hDc : va_D A (wd_SF_grow cI cJ cG cZ a0 a0_fits 0 w0_fits) := hD.sub [0, 1] (by decide) rfl
  have hFc : ∀ q, va_A (wd_SF_grow cI cJ cG cZ a0 a0_fits 0 w0_fits) H.size q → A q := va_free hD hS hA [0, 1] rfl
  refine va_callv (va_runV (As := [.int 0, .int 0, .int p1]) (rest := []) ⟨hx, hb, hml, hown, htt⟩ (c_SF_grow l dC dI cI cJ cG cZ a0 a0_fits H.size F 14 0 w0_fits (0 : Int32) (0 : Int32) p1 v0_best_1 hc_2) (cwV 3 htt (gdV kt_544 kt_546 kp_33 kt_6 kt_547) rfl rfl rfl (by decide +kernel) ⟨(Nat.le_of_ble_eq_true rfl), (Nat.le_of_ble_eq_true rfl)⟩) ⟨PcS_blind, va_recv hK hPc (ci := 5) (q0 := 0) rfl rfl, PcS_in hPc hK hDc hNw⟩ rfl rfl hl.1 rfl (lv_room (Nat.le_of_ble_eq_true rfl)) d_SF_greatest_9 ⟨Nat.zero_le _, Nat.zero_le _⟩) hS (fun q _ h => hFc q h) hFc (fun u t H1 locs ht hvm hw hB hz1 hk1 hS => ?_)
  obtain ⟨hP1, hK1, hD1⟩ := hB
  rw [ht] at hP1
  obtain ⟨hP, hD⟩ := va_join (wr := []) (w1 := (wd_SF_grow cI cJ cG cZ a0 a0_fits v0_best_1 w0_fits)) hP hD [0, 1] [] rfl rfl (by decide) (by decide) hk1 hFc hP1 hD1
  have hP : va_P (dC, dI) vwCl (wd_SF_greatest cI cJ cG cZ a0 a0_fits v0_best_1 w0_fits) H1 := hP.sub [0, 1] rfl
  have hD : va_D A (wd_SF_greatest cI cJ cG cZ a0 a0_fits v0_best_1 w0_fits) := hD.sub [0, 1] (by decide) rfl
  clear hP1 hK1 hD1 hk1 hPc hDc hFc ht hvm hz1
  generalize H1 = H at hP hS ⊢
  refine lv_aload_n hx hb d_SF_greatest_12 rfl (lv_at hl 0 rfl) ?_
  refine va_get (D := (dC, dI)) (ci := 5) (v := .int v0_best_1) (C := R_SF) (T := T_SF) (N := 2) hx hb htt hin_SF hown hK hP 0 rfl rfl 1 (by decide) (htt _ kt_181) (fun _ h9 => h9) rfl d_SF_greatest_13 ?_
  cases hm
  exact W.iret hx hb hr (fun t ht hW => ⟨⟨_, (), rfl, rfl, by rw [ht]; exact hP, va_K.moved hW.alike hK, hD⟩, hS.F ht⟩) hS.2.2 d_SF_greatest_16
theorem d_SF_greatestClique_0 : decode prog_7_method_2_code 0 = .ok (.aload_n 1, 1) := by decide +kernel
theorem d_SF_greatestClique_1 : decode prog_7_method_2_code 1 = .ok (.getfield 15, 3) := by decide +kernel
theorem d_SF_greatestClique_4 : decode prog_7_method_2_code 4 = .ok (.iconst 0, 1) := by decide +kernel
theorem d_SF_greatestClique_5 : decode prog_7_method_2_code 5 = .ok (.aload_n 0, 1) := by decide +kernel
theorem d_SF_greatestClique_6 : decode prog_7_method_2_code 6 = .ok (.getfield 9, 3) := by decide +kernel
theorem d_SF_greatestClique_9 : decode prog_7_method_2_code 9 = .ok (.iconst 0, 1) := by decide +kernel
theorem d_SF_greatestClique_10 : decode prog_7_method_2_code 10 = .ok (.aload_n 1, 1) := by decide +kernel
theorem d_SF_greatestClique_11 : decode prog_7_method_2_code 11 = .ok (.getfield 20, 3) := by decide +kernel
theorem d_SF_greatestClique_14 : decode prog_7_method_2_code 14 = .ok (.invokestatic 24, 3) := by decide +kernel
theorem d_SF_greatestClique_17 : decode prog_7_method_2_code 17 = .ok (.aload_n 0, 1) := by decide +kernel
theorem d_SF_greatestClique_18 : decode prog_7_method_2_code 18 = .ok (.aload_n 1, 1) := by decide +kernel
theorem d_SF_greatestClique_19 : decode prog_7_method_2_code 19 = .ok (.invokevirtual 30, 3) := by decide +kernel
theorem d_SF_greatestClique_22 : decode prog_7_method_2_code 22 = .ok (.invokevirtual 34, 3) := by decide +kernel
theorem d_SF_greatestClique_25 : decode prog_7_method_2_code 25 = .ok (.ireturn, 1) := by decide +kernel
abbrev wd_SF_greatestClique (cI cJ cG cZ : ClassId) (a0 a1 a0_fits a1_near a1_tail a1_head : Nat) (v0_best : Int32) (w0_fits : Nat → Int32) (v1_nodes : Int32) (v1_arcCount : Int32) (v1_version : Int32) (w1_near : Nat → Int32) : va_W := [(a0, .inr (5, [.ref a0_fits, .int v0_best])), (a0_fits, .inl (cI, 12, .inl w0_fits)), (a1, .inr (1, [.ref a1_near, .ref a1_tail, .ref a1_head, .int v1_nodes, .int v1_arcCount, .int v1_version])), (a1_near, .inl (cI, 12, .inl w1_near))]
abbrev us_SF_greatestClique : List Cond := .code y_SF_greatestClique prog_7_method_2_code 2 (some .int) :: gtbl
abbrev rm_SF_greatestClique : Room := { frames := 17, cells := 0, slots := 0, locals := 426 }
def m_SF_greatestClique (F : Nat) (v0_best : Int32) (w0_fits : Nat → Int32) (v1_nodes : Int32) (v1_arcCount : Int32) (v1_version : Int32) (w1_near : Nat → Int32) : Option (Int32 × Int32 × (Nat → Int32)) :=
  gC (cpyB (0 : Int32) (0 : Int32) v1_nodes 12 12) (
  gM (m_Net_everyNode F v1_nodes v1_arcCount v1_version) (fun q_2 =>
  gM (m_SF_greatest F v0_best (va_cpy w1_near w0_fits (0 : Int32).toNatClampNeg (0 : Int32).toNatClampNeg v1_nodes.toNatClampNeg) q_2) (fun (z_8 : Int32 × Int32) => match z_8 with
  | (q_5, v0_best_6) =>
  some (q_5, v0_best_6, va_cpy w1_near w0_fits (0 : Int32).toNatClampNeg (0 : Int32).toNatClampNeg v1_nodes.toNatClampNeg))))
set_option maxHeartbeats 4000000 in
set_option maxRecDepth 100000 in
theorem c_SF_greatestClique (l : Launch) (dC : Nat → ClassId) (dI : Nat → Nat → Nat) (cI cJ cG cZ : ClassId) (a0 a1 a0_fits a1_near a1_tail a1_head : Nat) (sz : Nat) (F : Nat) (v0_best : Int32) (w0_fits : Nat → Int32) (v1_nodes : Int32) (v1_arcCount : Int32) (v1_version : Int32) (w1_near : Nat → Int32) (ret : Int32) (o_v0_best : Int32) (o_w0_fits : Nat → Int32) (hm : m_SF_greatestClique F v0_best w0_fits v1_nodes v1_arcCount v1_version w1_near = some (ret, o_v0_best, o_w0_fits)) : Met l y_SF_greatestClique us_SF_greatestClique rm_SF_greatestClique (PcS (dC, dI) (tyL cI cJ cG cZ) [.ref a0, .ref a1] sz (wd_SF_greatestClique cI cJ cG cZ a0 a1 a0_fits a1_near a1_tail a1_head v0_best w0_fits v1_nodes v1_arcCount v1_version w1_near)) (va_Qi (fun (r : Int32) (_ : Unit) => ret = r) (fun _ t => PoS (dC, dI) (tyL cI cJ cG cZ) (wd_SF_greatestClique cI cJ cG cZ a0 a1 a0_fits a1_near a1_tail a1_head o_v0_best o_w0_fits v1_nodes v1_arcCount v1_version w1_near) (va_A (wd_SF_greatestClique cI cJ cG cZ a0 a1 a0_fits a1_near a1_tail a1_head v0_best w0_fits v1_nodes v1_arcCount v1_version w1_near) sz) t) (va_A (wd_SF_greatestClique cI cJ cG cZ a0 a1 a0_fits a1_near a1_tail a1_head v0_best w0_fits v1_nodes v1_arcCount v1_version w1_near) sz)) 0 0 (va_A (wd_SF_greatestClique cI cJ cG cZ a0 a1 a0_fits a1_near a1_tail a1_head v0_best w0_fits v1_nodes v1_arcCount v1_version w1_near) sz) := by
  refine Met.ofW (cc := prog_7_method_2_code) (maxL := 2) (ret := (some .int)) (by decide) rfl ?_
  intro p e s m args below meth c s₁ B hml hv
  obtain ⟨rfl, hsz, hP, hK, hD0, hNw⟩ := hv
  have hx := B.exec
  have hb := B.bytes
  have hr := B.returns
  have htt : ∀ w ∈ gtbl, w.before _ s = true := fun w h => atoms_spec (ws := us_SF_greatestClique) B.pre w (List.mem_cons_of_mem _ h)
  have hown : s.vm.findClass R_SF = some m.cls := findClass_of_methodNamed B.named
  have hlocks := B.notSynchronized
  subst hsz
  have hD := hD0.self (sz := s.heap.size)
  generalize hAe : va_A (wd_SF_greatestClique cI cJ cG cZ a0 a1 a0_fits a1_near a1_tail a1_head v0_best w0_fits v1_nodes v1_arcCount v1_version w1_near) s.heap.size = A at hD ⊢
  have hA : ∀ q : Nat, s.heap.size ≤ q → A q := fun q h => by rw [← hAe]; exact Or.inr h
  clear hAe hD0
  have hS : va_S A s.heap s.heap [] := va_S.rf
  have hl := lv_entry ([.ref a0, .ref a1]) (n := 2) (Nat.le_of_ble_eq_true rfl)
  rw [lg_entry_eq]
  generalize (lg_sl ([.ref a0, .ref a1]) ++ List.replicate (2 - (lg_sl ([.ref a0, .ref a1])).length) Slot.unset).toArray = ls at hl ⊢
  have hl : lv_has ls 2 [(0, .ref a0), (1, .ref a1)] := hl
  generalize hH : s.heap = H at hP ⊢
  have hS : va_S A s.heap H [] := hH ▸ hS
  generalize hLo : ([] : List Loc) = locs at hS ⊢
  clear hH hLo
  unfold m_SF_greatestClique at hm
  refine lv_aload_n hx hb d_SF_greatestClique_0 rfl (lv_at hl 1 rfl) ?_
  refine va_get (D := (dC, dI)) (ci := 1) (v := .ref a1_near) (C := R_Net) (T := T_Net) (N := 6) hx hb htt hin_Net hown hK hP 2 rfl rfl 0 (by decide) (htt _ kt_33) (fun _ h9 => h9) rfl d_SF_greatestClique_1 ?_
  refine lv_iconst (v := 0) hx hb d_SF_greatestClique_4 (by decide) ?_
  refine lv_aload_n hx hb d_SF_greatestClique_5 rfl (lv_at hl 0 rfl) ?_
  refine va_get (D := (dC, dI)) (ci := 5) (v := .ref a0_fits) (C := R_SF) (T := T_SF) (N := 2) hx hb htt hin_SF hown hK hP 0 rfl rfl 0 (by decide) (htt _ kt_180) (fun _ h9 => h9) rfl d_SF_greatestClique_6 ?_
  refine lv_iconst (v := 0) hx hb d_SF_greatestClique_9 (by decide) ?_
  refine lv_aload_n hx hb d_SF_greatestClique_10 rfl (lv_at hl 1 rfl) ?_
  refine va_get (D := (dC, dI)) (ci := 1) (v := .int v1_nodes) (C := R_Net) (T := T_Net) (N := 6) hx hb htt hin_Net hown hK hP 2 rfl rfl 3 (by decide) (htt _ kt_50) (fun _ h9 => h9) rfl d_SF_greatestClique_11 ?_
  obtain ⟨hy_1, hm⟩ := gC_e hm
  refine gx_copy hx hb hml hown htt kt_538 hK hP hD hS 3 1 rfl rfl hy_1 hl.1 (lv_room (Nat.le_of_ble_eq_true rfl)) (Nat.le_of_ble_eq_true rfl) (Nat.le_of_ble_eq_true rfl) d_SF_greatestClique_14 (fun H locs hP hD hS => ?_)
  have hP : va_P (dC, dI) vwCl (wd_SF_greatestClique cI cJ cG cZ a0 a1 a0_fits a1_near a1_tail a1_head v0_best (va_cpy w1_near w0_fits (0 : Int32).toNatClampNeg (0 : Int32).toNatClampNeg v1_nodes.toNatClampNeg) v1_nodes v1_arcCount v1_version w1_near) H := hP
  have hD : va_D A (wd_SF_greatestClique cI cJ cG cZ a0 a1 a0_fits a1_near a1_tail a1_head v0_best (va_cpy w1_near w0_fits (0 : Int32).toNatClampNeg (0 : Int32).toNatClampNeg v1_nodes.toNatClampNeg) v1_nodes v1_arcCount v1_version w1_near) := hD
  refine lv_aload_n hx hb d_SF_greatestClique_17 rfl (lv_at hl 0 rfl) ?_
  refine lv_aload_n hx hb d_SF_greatestClique_18 rfl (lv_at hl 1 rfl) ?_
  obtain ⟨q_2, hc_3, hm⟩ := gM_e hm
  have hPc : va_P (dC, dI) vwCl (wd_Net_everyNode cI cJ cG cZ a1 a1_near a1_tail a1_head v1_nodes v1_arcCount v1_version) H := hP.sub [2] rfl
  have hDc : va_D A (wd_Net_everyNode cI cJ cG cZ a1 a1_near a1_tail a1_head v1_nodes v1_arcCount v1_version) := hD.sub [2] (by decide) rfl
  have hFc : ∀ q, va_A (wd_Net_everyNode cI cJ cG cZ a1 a1_near a1_tail a1_head v1_nodes v1_arcCount v1_version) H.size q → A q := va_free hD hS hA [2] rfl
  refine va_calli (va_runV (As := []) (rest := [.ref a0]) ⟨hx, hb, hml, hown, htt⟩ (c_Net_everyNode l dC dI cI cJ cG cZ a1 a1_near a1_tail a1_head H.size F v1_nodes v1_arcCount v1_version q_2 hc_3) (cwV 0 htt (gdV kt_539 kt_400 kt_401 kt_2 kt_402) rfl rfl rfl (by decide +kernel) ⟨(Nat.le_of_ble_eq_true rfl), (Nat.le_of_ble_eq_true rfl)⟩) ⟨PcS_blind, va_recv hK hPc (ci := 1) (q0 := 0) rfl rfl, PcS_in hPc hK hDc hNw⟩ rfl rfl hl.1 rfl (lv_room (Nat.le_of_ble_eq_true rfl)) d_SF_greatestClique_19 ⟨Nat.zero_le _, Nat.zero_le _⟩) hS (fun q _ h => hFc q h) hFc (fun r_4 u t H1 locs ht hvm hw hB hz1 hk1 hS => ?_)
  obtain ⟨hP1, hK1, hD1⟩ := hB
  rw [ht] at hP1
  subst hw
  obtain ⟨hP, hD⟩ := va_join (wr := [(a0, .inr (5, [.ref a0_fits, .int v0_best])), (a0_fits, .inl (cI, 12, .inl (va_cpy w1_near w0_fits (0 : Int32).toNatClampNeg (0 : Int32).toNatClampNeg v1_nodes.toNatClampNeg))), (a1_near, .inl (cI, 12, .inl w1_near))]) (w1 := (wd_Net_everyNode cI cJ cG cZ a1 a1_near a1_tail a1_head v1_nodes v1_arcCount v1_version)) hP hD [2] [0, 1, 3] rfl rfl (by decide) (by decide) hk1 hFc hP1 hD1
  have hP : va_P (dC, dI) vwCl (wd_SF_greatestClique cI cJ cG cZ a0 a1 a0_fits a1_near a1_tail a1_head v0_best (va_cpy w1_near w0_fits (0 : Int32).toNatClampNeg (0 : Int32).toNatClampNeg v1_nodes.toNatClampNeg) v1_nodes v1_arcCount v1_version w1_near) H1 := hP.sub [0, 1, 3, 2] rfl
  have hD : va_D A (wd_SF_greatestClique cI cJ cG cZ a0 a1 a0_fits a1_near a1_tail a1_head v0_best (va_cpy w1_near w0_fits (0 : Int32).toNatClampNeg (0 : Int32).toNatClampNeg v1_nodes.toNatClampNeg) v1_nodes v1_arcCount v1_version w1_near) := hD.sub [0, 1, 3, 2] (by decide) rfl
  clear hP1 hK1 hD1 hk1 hPc hDc hFc ht hvm hz1
  generalize H1 = H at hP hS ⊢
  obtain ⟨⟨q_5, v0_best_6⟩, hc_7, hm⟩ := gM_e hm
  dsimp only at hm
  have hPc : va_P (dC, dI) vwCl (wd_SF_greatest cI cJ cG cZ a0 a0_fits v0_best (va_cpy w1_near w0_fits (0 : Int32).toNatClampNeg (0 : Int32).toNatClampNeg v1_nodes.toNatClampNeg)) H := hP.sub [0, 1] rfl
  have hDc : va_D A (wd_SF_greatest cI cJ cG cZ a0 a0_fits v0_best (va_cpy w1_near w0_fits (0 : Int32).toNatClampNeg (0 : Int32).toNatClampNeg v1_nodes.toNatClampNeg)) := hD.sub [0, 1] (by decide) rfl
  have hFc : ∀ q, va_A (wd_SF_greatest cI cJ cG cZ a0 a0_fits v0_best (va_cpy w1_near w0_fits (0 : Int32).toNatClampNeg (0 : Int32).toNatClampNeg v1_nodes.toNatClampNeg)) H.size q → A q := va_free hD hS hA [0, 1] rfl
  refine va_calli (va_runV (As := [.int q_2]) (rest := []) ⟨hx, hb, hml, hown, htt⟩ (c_SF_greatest l dC dI cI cJ cG cZ a0 a0_fits H.size F v0_best (va_cpy w1_near w0_fits (0 : Int32).toNatClampNeg (0 : Int32).toNatClampNeg v1_nodes.toNatClampNeg) q_2 q_5 v0_best_6 hc_7) (cwV 1 htt (gdV kt_540 kt_542 kp_32 kt_6 kt_543) rfl rfl rfl (by decide +kernel) ⟨(Nat.le_of_ble_eq_true rfl), (Nat.le_of_ble_eq_true rfl)⟩) ⟨PcS_blind, va_recv hK hPc (ci := 5) (q0 := 0) rfl rfl, PcS_in hPc hK hDc hNw⟩ rfl rfl hl.1 rfl (lv_room (Nat.le_of_ble_eq_true rfl)) d_SF_greatestClique_22 ⟨Nat.zero_le _, Nat.zero_le _⟩) hS (fun q _ h => hFc q h) hFc (fun r_9 u t H1 locs ht hvm hw hB hz1 hk1 hS => ?_)
  obtain ⟨hP1, hK1, hD1⟩ := hB
  rw [ht] at hP1
  subst hw
  obtain ⟨hP, hD⟩ := va_join (wr := [(a1, .inr (1, [.ref a1_near, .ref a1_tail, .ref a1_head, .int v1_nodes, .int v1_arcCount, .int v1_version])), (a1_near, .inl (cI, 12, .inl w1_near))]) (w1 := (wd_SF_greatest cI cJ cG cZ a0 a0_fits v0_best_6 (va_cpy w1_near w0_fits (0 : Int32).toNatClampNeg (0 : Int32).toNatClampNeg v1_nodes.toNatClampNeg))) hP hD [0, 1] [2, 3] rfl rfl (by decide) (by decide) hk1 hFc hP1 hD1
  have hP : va_P (dC, dI) vwCl (wd_SF_greatestClique cI cJ cG cZ a0 a1 a0_fits a1_near a1_tail a1_head v0_best_6 (va_cpy w1_near w0_fits (0 : Int32).toNatClampNeg (0 : Int32).toNatClampNeg v1_nodes.toNatClampNeg) v1_nodes v1_arcCount v1_version w1_near) H1 := hP.sub [2, 3, 0, 1] rfl
  have hD : va_D A (wd_SF_greatestClique cI cJ cG cZ a0 a1 a0_fits a1_near a1_tail a1_head v0_best_6 (va_cpy w1_near w0_fits (0 : Int32).toNatClampNeg (0 : Int32).toNatClampNeg v1_nodes.toNatClampNeg) v1_nodes v1_arcCount v1_version w1_near) := hD.sub [2, 3, 0, 1] (by decide) rfl
  clear hP1 hK1 hD1 hk1 hPc hDc hFc ht hvm hz1
  generalize H1 = H at hP hS ⊢
  cases hm
  exact W.iret hx hb hr (fun t ht hW => ⟨⟨_, (), rfl, rfl, by rw [ht]; exact hP, va_K.moved hW.alike hK, hD⟩, hS.F ht⟩) hS.2.2 d_SF_greatestClique_25
theorem d_SF_greatestApart_0 : decode prog_7_method_3_code 0 = .ok (.iconst 0, 1) := by decide +kernel
theorem d_SF_greatestApart_1 : decode prog_7_method_3_code 1 = .ok (.istore_n 2, 1) := by decide +kernel
theorem d_SF_greatestApart_2 : decode prog_7_method_3_code 2 = .ok (.iload_n 2, 1) := by decide +kernel
theorem d_SF_greatestApart_3 : decode prog_7_method_3_code 3 = .ok (.aload_n 1, 1) := by decide +kernel
theorem d_SF_greatestApart_4 : decode prog_7_method_3_code 4 = .ok (.getfield 20, 3) := by decide +kernel
theorem d_SF_greatestApart_7 : decode prog_7_method_3_code 7 = .ok (.if_icmp .ge 23, 3) := by decide +kernel
theorem d_SF_greatestApart_10 : decode prog_7_method_3_code 10 = .ok (.aload_n 0, 1) := by decide +kernel
theorem d_SF_greatestApart_11 : decode prog_7_method_3_code 11 = .ok (.getfield 9, 3) := by decide +kernel
theorem d_SF_greatestApart_14 : decode prog_7_method_3_code 14 = .ok (.iload_n 2, 1) := by decide +kernel
theorem d_SF_greatestApart_15 : decode prog_7_method_3_code 15 = .ok (.aload_n 1, 1) := by decide +kernel
theorem d_SF_greatestApart_16 : decode prog_7_method_3_code 16 = .ok (.getfield 15, 3) := by decide +kernel
theorem d_SF_greatestApart_19 : decode prog_7_method_3_code 19 = .ok (.iload_n 2, 1) := by decide +kernel
theorem d_SF_greatestApart_20 : decode prog_7_method_3_code 20 = .ok (.iaload, 1) := by decide +kernel
theorem d_SF_greatestApart_21 : decode prog_7_method_3_code 21 = .ok (.iconst (-1), 1) := by decide +kernel
theorem d_SF_greatestApart_22 : decode prog_7_method_3_code 22 = .ok (.ixor, 1) := by decide +kernel
theorem d_SF_greatestApart_23 : decode prog_7_method_3_code 23 = .ok (.iastore, 1) := by decide +kernel
theorem d_SF_greatestApart_24 : decode prog_7_method_3_code 24 = .ok (.iinc 2 1, 3) := by decide +kernel
theorem d_SF_greatestApart_27 : decode prog_7_method_3_code 27 = .ok (.goto (-25), 3) := by decide +kernel
theorem d_SF_greatestApart_30 : decode prog_7_method_3_code 30 = .ok (.aload_n 0, 1) := by decide +kernel
theorem d_SF_greatestApart_31 : decode prog_7_method_3_code 31 = .ok (.aload_n 1, 1) := by decide +kernel
theorem d_SF_greatestApart_32 : decode prog_7_method_3_code 32 = .ok (.invokevirtual 30, 3) := by decide +kernel
theorem d_SF_greatestApart_35 : decode prog_7_method_3_code 35 = .ok (.invokevirtual 34, 3) := by decide +kernel
theorem d_SF_greatestApart_38 : decode prog_7_method_3_code 38 = .ok (.ireturn, 1) := by decide +kernel
abbrev wd_SF_greatestApart (cI cJ cG cZ : ClassId) (a0 a1 a0_fits a1_near a1_tail a1_head : Nat) (v0_best : Int32) (w0_fits : Nat → Int32) (v1_nodes : Int32) (v1_arcCount : Int32) (v1_version : Int32) (w1_near : Nat → Int32) : va_W := [(a0, .inr (5, [.ref a0_fits, .int v0_best])), (a0_fits, .inl (cI, 12, .inl w0_fits)), (a1, .inr (1, [.ref a1_near, .ref a1_tail, .ref a1_head, .int v1_nodes, .int v1_arcCount, .int v1_version])), (a1_near, .inl (cI, 12, .inl w1_near))]
abbrev us_SF_greatestApart : List Cond := .code y_SF_greatestApart prog_7_method_3_code 3 (some .int) :: gtbl
abbrev rm_SF_greatestApart : Room := { frames := 17, cells := 0, slots := 0, locals := 426 }
def m_SF_greatestApart (F : Nat) (v0_best : Int32) (w0_fits : Nat → Int32) (v1_nodes : Int32) (v1_arcCount : Int32) (v1_version : Int32) (w1_near : Nat → Int32) : Option (Int32 × Int32 × (Nat → Int32)) :=
  gL (fun (k_2 : (Int32 × (Nat → Int32)) → Option (Int32 × Int32 × (Nat → Int32))) (z_2 : Int32 × (Nat → Int32)) => match z_2 with
  | (x2_1, w0_fits_2) =>
  if v1_nodes ≤ x2_1 then (
    gM (m_Net_everyNode F v1_nodes v1_arcCount v1_version) (fun q_4 =>
    gM (m_SF_greatest F v0_best w0_fits_2 q_4) (fun (z_10 : Int32 × Int32) => match z_10 with
    | (q_7, v0_best_8) =>
    some (q_7, v0_best_8, w0_fits_2)))
  ) else (
    gC (inb x2_1 12) (
    gC (inb x2_1 12) (
    gB (x2_1 + 1) (fun x2_14 =>
    k_2 (x2_14, upd w0_fits_2 x2_1.toNatClampNeg ((w1_near x2_1.toNatClampNeg) ^^^ (-1))))))
  )
  ) F (0, w0_fits)
set_option maxHeartbeats 4000000 in
set_option maxRecDepth 100000 in
theorem c_SF_greatestApart (l : Launch) (dC : Nat → ClassId) (dI : Nat → Nat → Nat) (cI cJ cG cZ : ClassId) (a0 a1 a0_fits a1_near a1_tail a1_head : Nat) (sz : Nat) (F : Nat) (v0_best : Int32) (w0_fits : Nat → Int32) (v1_nodes : Int32) (v1_arcCount : Int32) (v1_version : Int32) (w1_near : Nat → Int32) (ret : Int32) (o_v0_best : Int32) (o_w0_fits : Nat → Int32) (hm : m_SF_greatestApart F v0_best w0_fits v1_nodes v1_arcCount v1_version w1_near = some (ret, o_v0_best, o_w0_fits)) : Met l y_SF_greatestApart us_SF_greatestApart rm_SF_greatestApart (PcS (dC, dI) (tyL cI cJ cG cZ) [.ref a0, .ref a1] sz (wd_SF_greatestApart cI cJ cG cZ a0 a1 a0_fits a1_near a1_tail a1_head v0_best w0_fits v1_nodes v1_arcCount v1_version w1_near)) (va_Qi (fun (r : Int32) (_ : Unit) => ret = r) (fun _ t => PoS (dC, dI) (tyL cI cJ cG cZ) (wd_SF_greatestApart cI cJ cG cZ a0 a1 a0_fits a1_near a1_tail a1_head o_v0_best o_w0_fits v1_nodes v1_arcCount v1_version w1_near) (va_A (wd_SF_greatestApart cI cJ cG cZ a0 a1 a0_fits a1_near a1_tail a1_head v0_best w0_fits v1_nodes v1_arcCount v1_version w1_near) sz) t) (va_A (wd_SF_greatestApart cI cJ cG cZ a0 a1 a0_fits a1_near a1_tail a1_head v0_best w0_fits v1_nodes v1_arcCount v1_version w1_near) sz)) 0 0 (va_A (wd_SF_greatestApart cI cJ cG cZ a0 a1 a0_fits a1_near a1_tail a1_head v0_best w0_fits v1_nodes v1_arcCount v1_version w1_near) sz) := by
  refine Met.ofW (cc := prog_7_method_3_code) (maxL := 3) (ret := (some .int)) (by decide) rfl ?_
  intro p e s m args below meth c s₁ B hml hv
  obtain ⟨rfl, hsz, hP, hK, hD0, hNw⟩ := hv
  have hx := B.exec
  have hb := B.bytes
  have hr := B.returns
  have htt : ∀ w ∈ gtbl, w.before _ s = true := fun w h => atoms_spec (ws := us_SF_greatestApart) B.pre w (List.mem_cons_of_mem _ h)
  have hown : s.vm.findClass R_SF = some m.cls := findClass_of_methodNamed B.named
  have hlocks := B.notSynchronized
  subst hsz
  have hD := hD0.self (sz := s.heap.size)
  generalize hAe : va_A (wd_SF_greatestApart cI cJ cG cZ a0 a1 a0_fits a1_near a1_tail a1_head v0_best w0_fits v1_nodes v1_arcCount v1_version w1_near) s.heap.size = A at hD ⊢
  have hA : ∀ q : Nat, s.heap.size ≤ q → A q := fun q h => by rw [← hAe]; exact Or.inr h
  clear hAe hD0
  have hS : va_S A s.heap s.heap [] := va_S.rf
  have hl := lv_entry ([.ref a0, .ref a1]) (n := 3) (Nat.le_of_ble_eq_true rfl)
  rw [lg_entry_eq]
  generalize (lg_sl ([.ref a0, .ref a1]) ++ List.replicate (3 - (lg_sl ([.ref a0, .ref a1])).length) Slot.unset).toArray = ls at hl ⊢
  have hl : lv_has ls 3 [(0, .ref a0), (1, .ref a1)] := hl
  generalize hH : s.heap = H at hP ⊢
  have hS : va_S A s.heap H [] := hH ▸ hS
  generalize hLo : ([] : List Loc) = locs at hS ⊢
  clear hH hLo
  unfold m_SF_greatestApart at hm
  refine lv_iconst (v := 0) hx hb d_SF_greatestApart_0 (by decide) ?_
  refine lv_istore_n (lv' := [(2, .int 0), (0, .ref a0), (1, .ref a1)]) hx hb d_SF_greatestApart_1 rfl hl (by decide) rfl (fun ls hl => ?_)
  refine gL_e (P := (fun (z_2 : Int32 × (Nat → Int32)) => ∀ (x2_1 : Int32), ∀ (w0_fits_2 : Nat → Int32), z_2 = (x2_1, w0_fits_2) → ∀ (ls : Array Slot) (H : Heap) (locs : List Loc), lv_has ls 3 [(0, .ref a0), (1, .ref a1), (2, .int x2_1)] → va_P (dC, dI) vwCl (wd_SF_greatestApart cI cJ cG cZ a0 a1 a0_fits a1_near a1_tail a1_head v0_best w0_fits_2 v1_nodes v1_arcCount v1_version w1_near) H → va_D A (wd_SF_greatestApart cI cJ cG cZ a0 a1 a0_fits a1_near a1_tail a1_head v0_best w0_fits_2 v1_nodes v1_arcCount v1_version w1_near) → va_S A s.heap H locs → W p l e (headSpec us_SF_greatestApart rm_SF_greatestApart).room s m ([.ref a0, .ref a1] : List Value).toArray below meth c H locs 0 0 (MQ below (va_Qi (fun (r : Int32) (_ : Unit) => ret = r) (fun _ t => PoS (dC, dI) (tyL cI cJ cG cZ) (wd_SF_greatestApart cI cJ cG cZ a0 a1 a0_fits a1_near a1_tail a1_head o_v0_best o_w0_fits v1_nodes v1_arcCount v1_version w1_near) A t) A) ([.ref a0, .ref a1] : List Value).toArray s 0 0 A) (F0 m 2 ls []))) hm (fun k_2 z_2 ih_2 hm => ?_) _ _ rfl ls H locs (lv_sub hl [1, 2, 0] rfl) hP hD hS
  intro x2_1 w0_fits_2 hz ls H locs hl hP hD hS
  subst hz
  dsimp only at hm
  refine lv_iload_n hx hb d_SF_greatestApart_2 rfl (lv_at hl 2 rfl) ?_
  refine lv_aload_n hx hb d_SF_greatestApart_3 rfl (lv_at hl 1 rfl) ?_
  refine va_get (D := (dC, dI)) (ci := 1) (v := .int v1_nodes) (C := R_Net) (T := T_Net) (N := 6) hx hb htt hin_Net hown hK hP 2 rfl rfl 3 (by decide) (htt _ kt_50) (fun _ h9 => h9) rfl d_SF_greatestApart_4 ?_
  refine lv_icmp_ge (tgt := 30) hx hb d_SF_greatestApart_7 (by decide) (fun c_3 => ?_) (fun c_3 => ?_)
  · have hm := ite_t c_3 hm
    refine lv_aload_n hx hb d_SF_greatestApart_30 rfl (lv_at hl 0 rfl) ?_
    refine lv_aload_n hx hb d_SF_greatestApart_31 rfl (lv_at hl 1 rfl) ?_
    obtain ⟨q_4, hc_5, hm⟩ := gM_e hm
    have hPc : va_P (dC, dI) vwCl (wd_Net_everyNode cI cJ cG cZ a1 a1_near a1_tail a1_head v1_nodes v1_arcCount v1_version) H := hP.sub [2] rfl
    have hDc : va_D A (wd_Net_everyNode cI cJ cG cZ a1 a1_near a1_tail a1_head v1_nodes v1_arcCount v1_version) := hD.sub [2] (by decide) rfl
    have hFc : ∀ q, va_A (wd_Net_everyNode cI cJ cG cZ a1 a1_near a1_tail a1_head v1_nodes v1_arcCount v1_version) H.size q → A q := va_free hD hS hA [2] rfl
    refine va_calli (va_runV (As := []) (rest := [.ref a0]) ⟨hx, hb, hml, hown, htt⟩ (c_Net_everyNode l dC dI cI cJ cG cZ a1 a1_near a1_tail a1_head H.size F v1_nodes v1_arcCount v1_version q_4 hc_5) (cwV 0 htt (gdV kt_539 kt_400 kt_401 kt_2 kt_402) rfl rfl rfl (by decide +kernel) ⟨(Nat.le_of_ble_eq_true rfl), (Nat.le_of_ble_eq_true rfl)⟩) ⟨PcS_blind, va_recv hK hPc (ci := 1) (q0 := 0) rfl rfl, PcS_in hPc hK hDc hNw⟩ rfl rfl hl.1 rfl (lv_room (Nat.le_of_ble_eq_true rfl)) d_SF_greatestApart_32 ⟨Nat.zero_le _, Nat.zero_le _⟩) hS (fun q _ h => hFc q h) hFc (fun r_6 u t H1 locs ht hvm hw hB hz1 hk1 hS => ?_)
    obtain ⟨hP1, hK1, hD1⟩ := hB
    rw [ht] at hP1
    subst hw
    obtain ⟨hP, hD⟩ := va_join (wr := [(a0, .inr (5, [.ref a0_fits, .int v0_best])), (a0_fits, .inl (cI, 12, .inl w0_fits_2)), (a1_near, .inl (cI, 12, .inl w1_near))]) (w1 := (wd_Net_everyNode cI cJ cG cZ a1 a1_near a1_tail a1_head v1_nodes v1_arcCount v1_version)) hP hD [2] [0, 1, 3] rfl rfl (by decide) (by decide) hk1 hFc hP1 hD1
    have hP : va_P (dC, dI) vwCl (wd_SF_greatestApart cI cJ cG cZ a0 a1 a0_fits a1_near a1_tail a1_head v0_best w0_fits_2 v1_nodes v1_arcCount v1_version w1_near) H1 := hP.sub [0, 1, 3, 2] rfl
    have hD : va_D A (wd_SF_greatestApart cI cJ cG cZ a0 a1 a0_fits a1_near a1_tail a1_head v0_best w0_fits_2 v1_nodes v1_arcCount v1_version w1_near) := hD.sub [0, 1, 3, 2] (by decide) rfl
    clear hP1 hK1 hD1 hk1 hPc hDc hFc ht hvm hz1
    generalize H1 = H at hP hS ⊢
    obtain ⟨⟨q_7, v0_best_8⟩, hc_9, hm⟩ := gM_e hm
    dsimp only at hm
    have hPc : va_P (dC, dI) vwCl (wd_SF_greatest cI cJ cG cZ a0 a0_fits v0_best w0_fits_2) H := hP.sub [0, 1] rfl
    have hDc : va_D A (wd_SF_greatest cI cJ cG cZ a0 a0_fits v0_best w0_fits_2) := hD.sub [0, 1] (by decide) rfl
    have hFc : ∀ q, va_A (wd_SF_greatest cI cJ cG cZ a0 a0_fits v0_best w0_fits_2) H.size q → A q := va_free hD hS hA [0, 1] rfl
    refine va_calli (va_runV (As := [.int q_4]) (rest := []) ⟨hx, hb, hml, hown, htt⟩ (c_SF_greatest l dC dI cI cJ cG cZ a0 a0_fits H.size F v0_best w0_fits_2 q_4 q_7 v0_best_8 hc_9) (cwV 1 htt (gdV kt_540 kt_542 kp_32 kt_6 kt_543) rfl rfl rfl (by decide +kernel) ⟨(Nat.le_of_ble_eq_true rfl), (Nat.le_of_ble_eq_true rfl)⟩) ⟨PcS_blind, va_recv hK hPc (ci := 5) (q0 := 0) rfl rfl, PcS_in hPc hK hDc hNw⟩ rfl rfl hl.1 rfl (lv_room (Nat.le_of_ble_eq_true rfl)) d_SF_greatestApart_35 ⟨Nat.zero_le _, Nat.zero_le _⟩) hS (fun q _ h => hFc q h) hFc (fun r_11 u t H1 locs ht hvm hw hB hz1 hk1 hS => ?_)
    obtain ⟨hP1, hK1, hD1⟩ := hB
    rw [ht] at hP1
    subst hw
    obtain ⟨hP, hD⟩ := va_join (wr := [(a1, .inr (1, [.ref a1_near, .ref a1_tail, .ref a1_head, .int v1_nodes, .int v1_arcCount, .int v1_version])), (a1_near, .inl (cI, 12, .inl w1_near))]) (w1 := (wd_SF_greatest cI cJ cG cZ a0 a0_fits v0_best_8 w0_fits_2)) hP hD [0, 1] [2, 3] rfl rfl (by decide) (by decide) hk1 hFc hP1 hD1
    have hP : va_P (dC, dI) vwCl (wd_SF_greatestApart cI cJ cG cZ a0 a1 a0_fits a1_near a1_tail a1_head v0_best_8 w0_fits_2 v1_nodes v1_arcCount v1_version w1_near) H1 := hP.sub [2, 3, 0, 1] rfl
    have hD : va_D A (wd_SF_greatestApart cI cJ cG cZ a0 a1 a0_fits a1_near a1_tail a1_head v0_best_8 w0_fits_2 v1_nodes v1_arcCount v1_version w1_near) := hD.sub [2, 3, 0, 1] (by decide) rfl
    clear hP1 hK1 hD1 hk1 hPc hDc hFc ht hvm hz1
    generalize H1 = H at hP hS ⊢
    cases hm
    exact W.iret hx hb hr (fun t ht hW => ⟨⟨_, (), rfl, rfl, by rw [ht]; exact hP, va_K.moved hW.alike hK, hD⟩, hS.F ht⟩) hS.2.2 d_SF_greatestApart_38
  · have hm := ite_f c_3 hm
    refine lv_aload_n hx hb d_SF_greatestApart_10 rfl (lv_at hl 0 rfl) ?_
    refine va_get (D := (dC, dI)) (ci := 5) (v := .ref a0_fits) (C := R_SF) (T := T_SF) (N := 2) hx hb htt hin_SF hown hK hP 0 rfl rfl 0 (by decide) (htt _ kt_180) (fun _ h9 => h9) rfl d_SF_greatestApart_11 ?_
    refine lv_iload_n hx hb d_SF_greatestApart_14 rfl (lv_at hl 2 rfl) ?_
    refine lv_aload_n hx hb d_SF_greatestApart_15 rfl (lv_at hl 1 rfl) ?_
    refine va_get (D := (dC, dI)) (ci := 1) (v := .ref a1_near) (C := R_Net) (T := T_Net) (N := 6) hx hb htt hin_Net hown hK hP 2 rfl rfl 0 (by decide) (htt _ kt_33) (fun _ h9 => h9) rfl d_SF_greatestApart_16 ?_
    refine lv_iload_n hx hb d_SF_greatestApart_19 rfl (lv_at hl 2 rfl) ?_
    obtain ⟨hi_12, hm⟩ := gC_e hm
    refine va_iald hx hb hK hP 3 0 rfl rfl (inb_vp hi_12) d_SF_greatestApart_20 ?_
    refine lv_iconst (v := (-1)) hx hb d_SF_greatestApart_21 (by decide) ?_
    refine lv_ixor hx hb d_SF_greatestApart_22 ?_
    obtain ⟨hi_13, hm⟩ := gC_e hm
    refine va_iast hx hb hK hP hD hS 1 0 rfl rfl (inb_vp hi_13) d_SF_greatestApart_23 (fun H locs hP hD hS => ?_)
    have hP : va_P (dC, dI) vwCl (wd_SF_greatestApart cI cJ cG cZ a0 a1 a0_fits a1_near a1_tail a1_head v0_best (upd w0_fits_2 x2_1.toNatClampNeg ((w1_near x2_1.toNatClampNeg) ^^^ (-1))) v1_nodes v1_arcCount v1_version w1_near) H := hP
    have hD : va_D A (wd_SF_greatestApart cI cJ cG cZ a0 a1 a0_fits a1_near a1_tail a1_head v0_best (upd w0_fits_2 x2_1.toNatClampNeg ((w1_near x2_1.toNatClampNeg) ^^^ (-1))) v1_nodes v1_arcCount v1_version w1_near) := hD
    obtain ⟨x2_14, ex2_14⟩ : ∃ y : Int32, y = x2_1 + 1 := ⟨_, rfl⟩
    have hm := gB_at ex2_14 hm
    refine lv_iinc (v := x2_14) (lv' := [(2, .int x2_14), (0, .ref a0), (1, .ref a1)]) hx hb d_SF_greatestApart_24 hl (k := 2) rfl (by rw [ex2_14]; rfl) (by decide) rfl (fun ls hl => ?_)
    refine lv_goto (tgt := 2) hx hb d_SF_greatestApart_27 (by decide) ?_
    exact ih_2 _ hm _ _ rfl ls H locs (lv_sub hl [1, 2, 0] rfl) hP hD hS
