theorem d_Pai_paintable_0 : decode prog_5_method_10_code 0 = .ok (.iload_n 1, 1) := by decide +kernel
theorem d_Pai_paintable_1 : decode prog_5_method_10_code 1 = .ok (.bipush 16, 2) := by decide +kernel
theorem d_Pai_paintable_3 : decode prog_5_method_10_code 3 = .ok (.if_icmp .le 13, 3) := by decide +kernel
theorem d_Pai_paintable_6 : decode prog_5_method_10_code 6 = .ok (.iload_n 2, 1) := by decide +kernel
theorem d_Pai_paintable_7 : decode prog_5_method_10_code 7 = .ok (.ifCond .ne 7, 3) := by decide +kernel
theorem d_Pai_paintable_10 : decode prog_5_method_10_code 10 = .ok (.iconst 1, 1) := by decide +kernel
theorem d_Pai_paintable_11 : decode prog_5_method_10_code 11 = .ok (.goto 4, 3) := by decide +kernel
theorem d_Pai_paintable_14 : decode prog_5_method_10_code 14 = .ok (.iconst 0, 1) := by decide +kernel
theorem d_Pai_paintable_15 : decode prog_5_method_10_code 15 = .ok (.ireturn, 1) := by decide +kernel
theorem d_Pai_paintable_16 : decode prog_5_method_10_code 16 = .ok (.aload_n 0, 1) := by decide +kernel
theorem d_Pai_paintable_17 : decode prog_5_method_10_code 17 = .ok (.getfield 67, 3) := by decide +kernel
theorem d_Pai_paintable_20 : decode prog_5_method_10_code 20 = .ok (.ifCond .eq 14, 3) := by decide +kernel
theorem d_Pai_paintable_23 : decode prog_5_method_10_code 23 = .ok (.aload_n 0, 1) := by decide +kernel
theorem d_Pai_paintable_24 : decode prog_5_method_10_code 24 = .ok (.iload_n 1, 1) := by decide +kernel
theorem d_Pai_paintable_25 : decode prog_5_method_10_code 25 = .ok (.iload_n 2, 1) := by decide +kernel
theorem d_Pai_paintable_26 : decode prog_5_method_10_code 26 = .ok (.invokevirtual 107, 3) := by decide +kernel
theorem d_Pai_paintable_29 : decode prog_5_method_10_code 29 = .ok (.ifCond .eq 5, 3) := by decide +kernel
theorem d_Pai_paintable_32 : decode prog_5_method_10_code 32 = .ok (.iconst 0, 1) := by decide +kernel
theorem d_Pai_paintable_33 : decode prog_5_method_10_code 33 = .ok (.ireturn, 1) := by decide +kernel
theorem d_Pai_paintable_34 : decode prog_5_method_10_code 34 = .ok (.aload_n 0, 1) := by decide +kernel
theorem d_Pai_paintable_35 : decode prog_5_method_10_code 35 = .ok (.getfield 67, 3) := by decide +kernel
theorem d_Pai_paintable_38 : decode prog_5_method_10_code 38 = .ok (.ifCond .eq 7, 3) := by decide +kernel
theorem d_Pai_paintable_41 : decode prog_5_method_10_code 41 = .ok (.iload_n 2, 1) := by decide +kernel
theorem d_Pai_paintable_42 : decode prog_5_method_10_code 42 = .ok (.goto 9, 3) := by decide +kernel
theorem d_Pai_paintable_45 : decode prog_5_method_10_code 45 = .ok (.aload_n 0, 1) := by decide +kernel
theorem d_Pai_paintable_46 : decode prog_5_method_10_code 46 = .ok (.iload_n 1, 1) := by decide +kernel
theorem d_Pai_paintable_47 : decode prog_5_method_10_code 47 = .ok (.iload_n 2, 1) := by decide +kernel
theorem d_Pai_paintable_48 : decode prog_5_method_10_code 48 = .ok (.invokevirtual 110, 3) := by decide +kernel
theorem d_Pai_paintable_51 : decode prog_5_method_10_code 51 = .ok (.istore_n 3, 1) := by decide +kernel
theorem d_Pai_paintable_52 : decode prog_5_method_10_code 52 = .ok (.iload_n 3, 1) := by decide +kernel
theorem d_Pai_paintable_53 : decode prog_5_method_10_code 53 = .ok (.ifCond .ne 5, 3) := by decide +kernel
theorem d_Pai_paintable_56 : decode prog_5_method_10_code 56 = .ok (.iconst 1, 1) := by decide +kernel
theorem d_Pai_paintable_57 : decode prog_5_method_10_code 57 = .ok (.ireturn, 1) := by decide +kernel
theorem d_Pai_paintable_58 : decode prog_5_method_10_code 58 = .ok (.aload_n 0, 1) := by decide +kernel
theorem d_Pai_paintable_59 : decode prog_5_method_10_code 59 = .ok (.invokevirtual 90, 3) := by decide +kernel
theorem d_Pai_paintable_62 : decode prog_5_method_10_code 62 = .ok (.istore 4, 2) := by decide +kernel
theorem d_Pai_paintable_64 : decode prog_5_method_10_code 64 = .ok (.aload_n 0, 1) := by decide +kernel
theorem d_Pai_paintable_65 : decode prog_5_method_10_code 65 = .ok (.iload_n 1, 1) := by decide +kernel
theorem d_Pai_paintable_66 : decode prog_5_method_10_code 66 = .ok (.iload_n 3, 1) := by decide +kernel
theorem d_Pai_paintable_67 : decode prog_5_method_10_code 67 = .ok (.iload 4, 2) := by decide +kernel
theorem d_Pai_paintable_69 : decode prog_5_method_10_code 69 = .ok (.invokevirtual 113, 3) := by decide +kernel
theorem d_Pai_paintable_72 : decode prog_5_method_10_code 72 = .ok (.istore 5, 2) := by decide +kernel
theorem d_Pai_paintable_74 : decode prog_5_method_10_code 74 = .ok (.aload_n 0, 1) := by decide +kernel
theorem d_Pai_paintable_75 : decode prog_5_method_10_code 75 = .ok (.getfield 20, 3) := by decide +kernel
theorem d_Pai_paintable_78 : decode prog_5_method_10_code 78 = .ok (.iload_n 1, 1) := by decide +kernel
theorem d_Pai_paintable_79 : decode prog_5_method_10_code 79 = .ok (.aaload, 1) := by decide +kernel
theorem d_Pai_paintable_80 : decode prog_5_method_10_code 80 = .ok (.iload 5, 2) := by decide +kernel
theorem d_Pai_paintable_82 : decode prog_5_method_10_code 82 = .ok (.iaload, 1) := by decide +kernel
theorem d_Pai_paintable_83 : decode prog_5_method_10_code 83 = .ok (.iload 4, 2) := by decide +kernel
theorem d_Pai_paintable_85 : decode prog_5_method_10_code 85 = .ok (.iand, 1) := by decide +kernel
theorem d_Pai_paintable_86 : decode prog_5_method_10_code 86 = .ok (.istore 6, 2) := by decide +kernel
theorem d_Pai_paintable_88 : decode prog_5_method_10_code 88 = .ok (.iload_n 3, 1) := by decide +kernel
theorem d_Pai_paintable_89 : decode prog_5_method_10_code 89 = .ok (.iconst 1, 1) := by decide +kernel
theorem d_Pai_paintable_90 : decode prog_5_method_10_code 90 = .ok (.iload 5, 2) := by decide +kernel
theorem d_Pai_paintable_92 : decode prog_5_method_10_code 92 = .ok (.ishl, 1) := by decide +kernel
theorem d_Pai_paintable_93 : decode prog_5_method_10_code 93 = .ok (.iconst (-1), 1) := by decide +kernel
theorem d_Pai_paintable_94 : decode prog_5_method_10_code 94 = .ok (.ixor, 1) := by decide +kernel
theorem d_Pai_paintable_95 : decode prog_5_method_10_code 95 = .ok (.iand, 1) := by decide +kernel
theorem d_Pai_paintable_96 : decode prog_5_method_10_code 96 = .ok (.istore 7, 2) := by decide +kernel
theorem d_Pai_paintable_98 : decode prog_5_method_10_code 98 = .ok (.iconst 0, 1) := by decide +kernel
theorem d_Pai_paintable_99 : decode prog_5_method_10_code 99 = .ok (.istore 8, 2) := by decide +kernel
theorem d_Pai_paintable_101 : decode prog_5_method_10_code 101 = .ok (.iload 8, 2) := by decide +kernel
theorem d_Pai_paintable_103 : decode prog_5_method_10_code 103 = .ok (.aload_n 0, 1) := by decide +kernel
theorem d_Pai_paintable_104 : decode prog_5_method_10_code 104 = .ok (.getfield 71, 3) := by decide +kernel
theorem d_Pai_paintable_107 : decode prog_5_method_10_code 107 = .ok (.if_icmp .ge 88, 3) := by decide +kernel
theorem d_Pai_paintable_110 : decode prog_5_method_10_code 110 = .ok (.iload 6, 2) := by decide +kernel
theorem d_Pai_paintable_112 : decode prog_5_method_10_code 112 = .ok (.iload 8, 2) := by decide +kernel
theorem d_Pai_paintable_114 : decode prog_5_method_10_code 114 = .ok (.ishr, 1) := by decide +kernel
theorem d_Pai_paintable_115 : decode prog_5_method_10_code 115 = .ok (.iconst 1, 1) := by decide +kernel
theorem d_Pai_paintable_116 : decode prog_5_method_10_code 116 = .ok (.iand, 1) := by decide +kernel
theorem d_Pai_paintable_117 : decode prog_5_method_10_code 117 = .ok (.ifCond .eq 72, 3) := by decide +kernel
theorem d_Pai_paintable_120 : decode prog_5_method_10_code 120 = .ok (.aload_n 0, 1) := by decide +kernel
theorem d_Pai_paintable_121 : decode prog_5_method_10_code 121 = .ok (.iload_n 1, 1) := by decide +kernel
theorem d_Pai_paintable_122 : decode prog_5_method_10_code 122 = .ok (.iload 7, 2) := by decide +kernel
theorem d_Pai_paintable_124 : decode prog_5_method_10_code 124 = .ok (.iload 6, 2) := by decide +kernel
theorem d_Pai_paintable_126 : decode prog_5_method_10_code 126 = .ok (.iload 8, 2) := by decide +kernel
theorem d_Pai_paintable_128 : decode prog_5_method_10_code 128 = .ok (.invokevirtual 94, 3) := by decide +kernel
theorem d_Pai_paintable_131 : decode prog_5_method_10_code 131 = .ok (.ifCond .eq 6, 3) := by decide +kernel
theorem d_Pai_paintable_134 : decode prog_5_method_10_code 134 = .ok (.goto 55, 3) := by decide +kernel
theorem d_Pai_paintable_137 : decode prog_5_method_10_code 137 = .ok (.aload_n 0, 1) := by decide +kernel
theorem d_Pai_paintable_138 : decode prog_5_method_10_code 138 = .ok (.iload 8, 2) := by decide +kernel
theorem d_Pai_paintable_140 : decode prog_5_method_10_code 140 = .ok (.invokevirtual 98, 3) := by decide +kernel
theorem d_Pai_paintable_143 : decode prog_5_method_10_code 143 = .ok (.aload_n 0, 1) := by decide +kernel
theorem d_Pai_paintable_144 : decode prog_5_method_10_code 144 = .ok (.iload_n 1, 1) := by decide +kernel
theorem d_Pai_paintable_145 : decode prog_5_method_10_code 145 = .ok (.iload 7, 2) := by decide +kernel
theorem d_Pai_paintable_147 : decode prog_5_method_10_code 147 = .ok (.iload 5, 2) := by decide +kernel
theorem d_Pai_paintable_149 : decode prog_5_method_10_code 149 = .ok (.iload 8, 2) := by decide +kernel
theorem d_Pai_paintable_151 : decode prog_5_method_10_code 151 = .ok (.invokevirtual 101, 3) := by decide +kernel
theorem d_Pai_paintable_154 : decode prog_5_method_10_code 154 = .ok (.ifCond .eq 19, 3) := by decide +kernel
theorem d_Pai_paintable_157 : decode prog_5_method_10_code 157 = .ok (.aload_n 0, 1) := by decide +kernel
theorem d_Pai_paintable_158 : decode prog_5_method_10_code 158 = .ok (.iload_n 1, 1) := by decide +kernel
theorem d_Pai_paintable_159 : decode prog_5_method_10_code 159 = .ok (.iconst 1, 1) := by decide +kernel
theorem d_Pai_paintable_160 : decode prog_5_method_10_code 160 = .ok (.iadd, 1) := by decide +kernel
theorem d_Pai_paintable_161 : decode prog_5_method_10_code 161 = .ok (.iload 7, 2) := by decide +kernel
theorem d_Pai_paintable_163 : decode prog_5_method_10_code 163 = .ok (.invokevirtual 83, 3) := by decide +kernel
theorem d_Pai_paintable_166 : decode prog_5_method_10_code 166 = .ok (.ifCond .eq 7, 3) := by decide +kernel
theorem d_Pai_paintable_169 : decode prog_5_method_10_code 169 = .ok (.iconst 1, 1) := by decide +kernel
theorem d_Pai_paintable_170 : decode prog_5_method_10_code 170 = .ok (.goto 4, 3) := by decide +kernel
theorem d_Pai_paintable_173 : decode prog_5_method_10_code 173 = .ok (.iconst 0, 1) := by decide +kernel
theorem d_Pai_paintable_174 : decode prog_5_method_10_code 174 = .ok (.istore 9, 2) := by decide +kernel
theorem d_Pai_paintable_176 : decode prog_5_method_10_code 176 = .ok (.aload_n 0, 1) := by decide +kernel
theorem d_Pai_paintable_177 : decode prog_5_method_10_code 177 = .ok (.iload 8, 2) := by decide +kernel
theorem d_Pai_paintable_179 : decode prog_5_method_10_code 179 = .ok (.invokevirtual 104, 3) := by decide +kernel
theorem d_Pai_paintable_182 : decode prog_5_method_10_code 182 = .ok (.iload 9, 2) := by decide +kernel
theorem d_Pai_paintable_184 : decode prog_5_method_10_code 184 = .ok (.ifCond .eq 5, 3) := by decide +kernel
theorem d_Pai_paintable_187 : decode prog_5_method_10_code 187 = .ok (.iconst 1, 1) := by decide +kernel
theorem d_Pai_paintable_188 : decode prog_5_method_10_code 188 = .ok (.ireturn, 1) := by decide +kernel
theorem d_Pai_paintable_189 : decode prog_5_method_10_code 189 = .ok (.iinc 8 1, 3) := by decide +kernel
theorem d_Pai_paintable_192 : decode prog_5_method_10_code 192 = .ok (.goto (-91), 3) := by decide +kernel
theorem d_Pai_paintable_195 : decode prog_5_method_10_code 195 = .ok (.iconst 0, 1) := by decide +kernel
theorem d_Pai_paintable_196 : decode prog_5_method_10_code 196 = .ok (.ireturn, 1) := by decide +kernel
abbrev wd_Pai_paintable (cI cJ cG cZ : ClassId) (a0 a0_paint a0_near a0_free a0_uses : Nat) (r0_free : Nat → Nat) (v0_items : Int32) (v0_evenly : Int32) (v0_palette : Int32) (v0_share : Int32) (v0_bigger : Int32) (v0_bigNow : Int32) (w0_near : Nat → Int32) (w0_uses : Nat → Int32) (w0_free : Nat → Nat → Int32) : va_W := [(a0, .inr (2, [.ref a0_paint, .ref a0_near, .ref a0_free, .ref a0_uses, .int v0_items, .int v0_evenly, .int v0_palette, .int v0_share, .int v0_bigger, .int v0_bigNow])), (a0_near, .inl (cI, 16, .inl w0_near)), (a0_free, .inl (cG, 18, .inr (.inr (.inr (.inr (gO r0_free 18)))))), (a0_uses, .inl (cI, 12, .inl w0_uses))] ++ rowsW r0_free cI 16 18 w0_free
abbrev we_Pai_paintable (cI cJ cG cZ : ClassId) (a0 a0_paint a0_near a0_free a0_uses : Nat) (r0_free : Nat → Nat) (v0_items : Int32) (v0_evenly : Int32) (v0_palette : Int32) (v0_share : Int32) (v0_bigger : Int32) (v0_bigNow : Int32) (w0_near : Nat → Int32) (w0_uses : Nat → Int32) (w0_free : Nat → Nat → Int32) : va_W := [(a0, .inr (2, [.ref a0_paint, .ref a0_near, .ref a0_free, .ref a0_uses, .int v0_items, .int v0_evenly, .int v0_palette, .int v0_share, .int v0_bigger, .int v0_bigNow])), (a0_near, .inl (cI, 16, .inl w0_near)), (a0_free, .inl (cG, 18, .inr (.inr (.inr (.inr (gO r0_free 18)))))), (a0_uses, .inl (cI, 12, .inl w0_uses))]
abbrev us_Pai_paintable : List Cond := .code y_Pai_paintable prog_5_method_10_code 10 (some .boolean) :: gtbl
abbrev rm_Pai_paintable (d : Nat) : Room := { frames := d + 2, cells := 0, slots := 0, locals := d * 29 + 50 }
def m_Pai_paintable (F : Nat) : Nat → Int32 → Int32 → Int32 → Int32 → Int32 → Int32 → (Nat → Int32) → (Nat → Int32) → (Nat → Nat → Int32) → Int32 → Int32 → Option (Int32 × Int32 × (Nat → Int32) × (Nat → Nat → Int32))
  | 0 => fun _ _ _ _ _ _ _ _ _ _ _ => none
  | d + 1 => fun v0_items v0_evenly v0_palette v0_share v0_bigger v0_bigNow w0_near w0_uses w0_free p1 p2 =>
    if p1 ≤ (16 : Int32) then (
      gB (α := Option (Int32 × Int32 × (Nat → Int32) × (Nat → Nat → Int32))) (
        gB (α := Int32 → Option (Int32 × Int32 × (Nat → Int32) × (Nat → Nat → Int32))) (fun s_2 =>
          if s_2 = 0 then (
            some (1, v0_bigNow, w0_uses, w0_free)
          ) else (
            gM (m_Pai_openColours F v0_items v0_evenly v0_palette v0_share v0_bigger v0_bigNow w0_uses) (fun q_4 =>
            gM (m_Pai_tightest F v0_items v0_evenly v0_palette v0_share v0_bigger v0_bigNow w0_near w0_free p1 s_2 q_4) (fun q_7 =>
            gC (inb p1 18) (
            gC (inb q_7 16) (
            gB ((w0_free p1.toNatClampNeg q_7.toNatClampNeg) &&& q_4) (fun x6_13 =>
            gB (s_2 &&& (((1 : Int32) <<< (q_7 &&& 31)) ^^^ (-1))) (fun x7_14 =>
            gL (fun (k_101 : (Int32 × Int32 × (Nat → Int32) × (Nat → Nat → Int32)) → Option (Int32 × Int32 × (Nat → Int32) × (Nat → Nat → Int32))) (z_101 : Int32 × Int32 × (Nat → Int32) × (Nat → Nat → Int32)) => match z_101 with
            | (x8_15, v0_bigNow_16, w0_uses_17, w0_free_18) =>
            if v0_palette ≤ x8_15 then (
              some (0, v0_bigNow_16, w0_uses_17, w0_free_18)
            ) else (
              if ((x6_13 >>> (x8_15 &&& 31)) &&& 1) = 0 then (
                gB (x8_15 + 1) (fun x8_21 =>
                k_101 (x8_21, v0_bigNow_16, w0_uses_17, w0_free_18))
              ) else (
                gM (m_Pai_likeEarlier F v0_items v0_evenly v0_palette v0_share v0_bigger v0_bigNow_16 w0_uses_17 w0_free_18 p1 x7_14 x6_13 x8_15) (fun q_22 =>
                if q_22 = 0 then (
                  gM (m_Pai_use F v0_items v0_evenly v0_palette v0_share v0_bigger v0_bigNow_16 w0_uses_17 x8_15) (fun (z_30 : Int32 × (Nat → Int32)) => match z_30 with
                  | (v0_bigNow_27, w0_uses_28) =>
                  gM (m_Pai_spread F v0_items v0_evenly v0_palette v0_share v0_bigger v0_bigNow_27 w0_near w0_free_18 p1 x7_14 q_7 x8_15) (fun (z_34 : Int32 × (Nat → Nat → Int32)) => match z_34 with
                  | (q_31, w0_free_32) =>
                  gB (α := Int32 → Int32 → (Nat → Int32) → (Nat → Nat → Int32) → Option (Int32 × Int32 × (Nat → Int32) × (Nat → Nat → Int32))) (fun s_37 v0_bigNow_38 w0_uses_39 w0_free_40 =>
                    gM (m_Pai_unuse F v0_items v0_evenly v0_palette v0_share v0_bigger v0_bigNow_38 w0_uses_39 x8_15) (fun (z_44 : Int32 × (Nat → Int32)) => match z_44 with
                    | (v0_bigNow_41, w0_uses_42) =>
                    if s_37 = 0 then (
                      gB (x8_15 + 1) (fun x8_46 =>
                      k_101 (x8_46, v0_bigNow_41, w0_uses_42, w0_free_40))
                    ) else (
                      some (1, v0_bigNow_41, w0_uses_42, w0_free_40)
                    ))
                  ) (fun J_174 =>
                  gB (α := Int32 → (Nat → Int32) → (Nat → Nat → Int32) → Option (Int32 × Int32 × (Nat → Int32) × (Nat → Nat → Int32))) (fun v0_bigNow_47 w0_uses_48 w0_free_49 =>
                    J_174 0 v0_bigNow_47 w0_uses_48 w0_free_49
                  ) (fun J_173 =>
                  if q_31 = 0 then (
                    J_173 v0_bigNow_27 w0_uses_28 w0_free_32
                  ) else (
                    gM (m_Pai_paintable F d v0_items v0_evenly v0_palette v0_share v0_bigger v0_bigNow_27 w0_near w0_uses_28 w0_free_32 (p1 + 1) x7_14) (fun (z_56 : Int32 × Int32 × (Nat → Int32) × (Nat → Nat → Int32)) => match z_56 with
                    | (q_51, v0_bigNow_52, w0_uses_53, w0_free_54) =>
                    if q_51 = 0 then (
                      J_173 v0_bigNow_52 w0_uses_53 w0_free_54
                    ) else (
                      J_174 1 v0_bigNow_52 w0_uses_53 w0_free_54
                    ))
                  )
                  )
                  )))
                ) else (
                  gB (x8_15 + 1) (fun x8_60 =>
                  k_101 (x8_60, v0_bigNow_16, w0_uses_17, w0_free_18))
                ))
              )
            )
            ) F (0, v0_bigNow, w0_uses, w0_free)))))))
          )
        ) (fun J_51 =>
        if v0_evenly = 0 then (
          gM (m_Pai_withoutEasy F v0_items v0_evenly v0_palette v0_share v0_bigger v0_bigNow w0_near w0_free p1 p2) (fun q_62 =>
          J_51 q_62)
        ) else (
          J_51 p2
        )
        )
      ) (fun J_34 =>
      if v0_evenly = 0 then (
        J_34
      ) else (
        gM (m_Pai_starved F v0_items v0_evenly v0_palette v0_share v0_bigger v0_bigNow w0_uses w0_free p1 p2) (fun q_66 =>
        if q_66 = 0 then (
          J_34
        ) else (
          some (0, v0_bigNow, w0_uses, w0_free)
        ))
      )
      )
    ) else (
      if p2 = 0 then (
        some (1, v0_bigNow, w0_uses, w0_free)
      ) else (
        some (0, v0_bigNow, w0_uses, w0_free)
      )
    )
theorem mr_Pai_paintable_s {F d : Nat} {v0_items : Int32} {v0_evenly : Int32} {v0_palette : Int32} {v0_share : Int32} {v0_bigger : Int32} {v0_bigNow : Int32} {w0_near : Nat → Int32} {w0_uses : Nat → Int32} {w0_free : Nat → Nat → Int32} {p1 : Int32} {p2 : Int32} {r : Int32 × Int32 × (Nat → Int32) × (Nat → Nat → Int32)} (h : m_Pai_paintable F (d + 1) v0_items v0_evenly v0_palette v0_share v0_bigger v0_bigNow w0_near w0_uses w0_free p1 p2 = some r) : (
    if p1 ≤ (16 : Int32) then (
      gB (α := Option (Int32 × Int32 × (Nat → Int32) × (Nat → Nat → Int32))) (
        gB (α := Int32 → Option (Int32 × Int32 × (Nat → Int32) × (Nat → Nat → Int32))) (fun s_2 =>
          if s_2 = 0 then (
            some (1, v0_bigNow, w0_uses, w0_free)
          ) else (
            gM (m_Pai_openColours F v0_items v0_evenly v0_palette v0_share v0_bigger v0_bigNow w0_uses) (fun q_4 =>
            gM (m_Pai_tightest F v0_items v0_evenly v0_palette v0_share v0_bigger v0_bigNow w0_near w0_free p1 s_2 q_4) (fun q_7 =>
            gC (inb p1 18) (
            gC (inb q_7 16) (
            gB ((w0_free p1.toNatClampNeg q_7.toNatClampNeg) &&& q_4) (fun x6_13 =>
            gB (s_2 &&& (((1 : Int32) <<< (q_7 &&& 31)) ^^^ (-1))) (fun x7_14 =>
            gL (fun (k_101 : (Int32 × Int32 × (Nat → Int32) × (Nat → Nat → Int32)) → Option (Int32 × Int32 × (Nat → Int32) × (Nat → Nat → Int32))) (z_101 : Int32 × Int32 × (Nat → Int32) × (Nat → Nat → Int32)) => match z_101 with
            | (x8_15, v0_bigNow_16, w0_uses_17, w0_free_18) =>
            if v0_palette ≤ x8_15 then (
              some (0, v0_bigNow_16, w0_uses_17, w0_free_18)
            ) else (
              if ((x6_13 >>> (x8_15 &&& 31)) &&& 1) = 0 then (
                gB (x8_15 + 1) (fun x8_21 =>
                k_101 (x8_21, v0_bigNow_16, w0_uses_17, w0_free_18))
              ) else (
                gM (m_Pai_likeEarlier F v0_items v0_evenly v0_palette v0_share v0_bigger v0_bigNow_16 w0_uses_17 w0_free_18 p1 x7_14 x6_13 x8_15) (fun q_22 =>
                if q_22 = 0 then (
                  gM (m_Pai_use F v0_items v0_evenly v0_palette v0_share v0_bigger v0_bigNow_16 w0_uses_17 x8_15) (fun (z_30 : Int32 × (Nat → Int32)) => match z_30 with
                  | (v0_bigNow_27, w0_uses_28) =>
                  gM (m_Pai_spread F v0_items v0_evenly v0_palette v0_share v0_bigger v0_bigNow_27 w0_near w0_free_18 p1 x7_14 q_7 x8_15) (fun (z_34 : Int32 × (Nat → Nat → Int32)) => match z_34 with
                  | (q_31, w0_free_32) =>
                  gB (α := Int32 → Int32 → (Nat → Int32) → (Nat → Nat → Int32) → Option (Int32 × Int32 × (Nat → Int32) × (Nat → Nat → Int32))) (fun s_37 v0_bigNow_38 w0_uses_39 w0_free_40 =>
                    gM (m_Pai_unuse F v0_items v0_evenly v0_palette v0_share v0_bigger v0_bigNow_38 w0_uses_39 x8_15) (fun (z_44 : Int32 × (Nat → Int32)) => match z_44 with
                    | (v0_bigNow_41, w0_uses_42) =>
                    if s_37 = 0 then (
                      gB (x8_15 + 1) (fun x8_46 =>
                      k_101 (x8_46, v0_bigNow_41, w0_uses_42, w0_free_40))
                    ) else (
                      some (1, v0_bigNow_41, w0_uses_42, w0_free_40)
                    ))
                  ) (fun J_174 =>
                  gB (α := Int32 → (Nat → Int32) → (Nat → Nat → Int32) → Option (Int32 × Int32 × (Nat → Int32) × (Nat → Nat → Int32))) (fun v0_bigNow_47 w0_uses_48 w0_free_49 =>
                    J_174 0 v0_bigNow_47 w0_uses_48 w0_free_49
                  ) (fun J_173 =>
                  if q_31 = 0 then (
                    J_173 v0_bigNow_27 w0_uses_28 w0_free_32
                  ) else (
                    gM (m_Pai_paintable F d v0_items v0_evenly v0_palette v0_share v0_bigger v0_bigNow_27 w0_near w0_uses_28 w0_free_32 (p1 + 1) x7_14) (fun (z_56 : Int32 × Int32 × (Nat → Int32) × (Nat → Nat → Int32)) => match z_56 with
                    | (q_51, v0_bigNow_52, w0_uses_53, w0_free_54) =>
                    if q_51 = 0 then (
                      J_173 v0_bigNow_52 w0_uses_53 w0_free_54
                    ) else (
                      J_174 1 v0_bigNow_52 w0_uses_53 w0_free_54
                    ))
                  )
                  )
                  )))
                ) else (
                  gB (x8_15 + 1) (fun x8_60 =>
                  k_101 (x8_60, v0_bigNow_16, w0_uses_17, w0_free_18))
                ))
              )
            )
            ) F (0, v0_bigNow, w0_uses, w0_free)))))))
          )
        ) (fun J_51 =>
        if v0_evenly = 0 then (
          gM (m_Pai_withoutEasy F v0_items v0_evenly v0_palette v0_share v0_bigger v0_bigNow w0_near w0_free p1 p2) (fun q_62 =>
          J_51 q_62)
        ) else (
          J_51 p2
        )
        )
      ) (fun J_34 =>
      if v0_evenly = 0 then (
        J_34
      ) else (
        gM (m_Pai_starved F v0_items v0_evenly v0_palette v0_share v0_bigger v0_bigNow w0_uses w0_free p1 p2) (fun q_66 =>
        if q_66 = 0 then (
          J_34
        ) else (
          some (0, v0_bigNow, w0_uses, w0_free)
        ))
      )
      )
    ) else (
      if p2 = 0 then (
        some (1, v0_bigNow, w0_uses, w0_free)
      ) else (
        some (0, v0_bigNow, w0_uses, w0_free)
      )
    )
  ) = some r := h
set_option maxHeartbeats 4000000 in
set_option maxRecDepth 100000 in
theorem cr_Pai_paintable (l : Launch) (dC : Nat → ClassId) (dI : Nat → Nat → Nat) (cI cJ cG cZ : ClassId) (F : Nat) : ∀ (d : Nat) (a0 a0_paint a0_near a0_free a0_uses : Nat) (r0_free : Nat → Nat) (sz : Nat) (v0_items : Int32) (v0_evenly : Int32) (v0_palette : Int32) (v0_share : Int32) (v0_bigger : Int32) (v0_bigNow : Int32) (w0_near : Nat → Int32) (w0_uses : Nat → Int32) (w0_free : Nat → Nat → Int32) (p1 : Int32) (p2 : Int32) (ret : Int32) (o_v0_bigNow : Int32) (o_w0_uses : Nat → Int32) (o_w0_free : Nat → Nat → Int32), m_Pai_paintable F d v0_items v0_evenly v0_palette v0_share v0_bigger v0_bigNow w0_near w0_uses w0_free p1 p2 = some (ret, o_v0_bigNow, o_w0_uses, o_w0_free) → Met l y_Pai_paintable us_Pai_paintable (rm_Pai_paintable d) (PcS (dC, dI) (tyL cI cJ cG cZ) [.ref a0, .int p1, .int p2] sz (wd_Pai_paintable cI cJ cG cZ a0 a0_paint a0_near a0_free a0_uses r0_free v0_items v0_evenly v0_palette v0_share v0_bigger v0_bigNow w0_near w0_uses w0_free)) (va_Qi (fun (r : Int32) (_ : Unit) => ret = r ∧ bz r) (fun _ t => PoS (dC, dI) (tyL cI cJ cG cZ) (wd_Pai_paintable cI cJ cG cZ a0 a0_paint a0_near a0_free a0_uses r0_free v0_items v0_evenly v0_palette v0_share v0_bigger o_v0_bigNow w0_near o_w0_uses o_w0_free) (va_A (wd_Pai_paintable cI cJ cG cZ a0 a0_paint a0_near a0_free a0_uses r0_free v0_items v0_evenly v0_palette v0_share v0_bigger v0_bigNow w0_near w0_uses w0_free) sz) t) (va_A (wd_Pai_paintable cI cJ cG cZ a0 a0_paint a0_near a0_free a0_uses r0_free v0_items v0_evenly v0_palette v0_share v0_bigger v0_bigNow w0_near w0_uses w0_free) sz)) 0 0 (va_A (wd_Pai_paintable cI cJ cG cZ a0 a0_paint a0_near a0_free a0_uses r0_free v0_items v0_evenly v0_palette v0_share v0_bigger v0_bigNow w0_near w0_uses w0_free) sz) := by
  intro d
  induction d with
  | zero => intro a0 a0_paint a0_near a0_free a0_uses r0_free sz v0_items v0_evenly v0_palette v0_share v0_bigger v0_bigNow w0_near w0_uses w0_free p1 p2 ret o_v0_bigNow o_w0_uses o_w0_free hm; exact absurd hm (by intro h; cases h)
  | succ d ihd =>
    intro a0 a0_paint a0_near a0_free a0_uses r0_free sz v0_items v0_evenly v0_palette v0_share v0_bigger v0_bigNow w0_near w0_uses w0_free p1 p2 ret o_v0_bigNow o_w0_uses o_w0_free hm
    refine Met.ofW (cc := prog_5_method_10_code) (maxL := 10) (ret := (some .boolean)) (by decide) rfl ?_
    intro p e s m args below meth c s₁ B hml hv
    obtain ⟨rfl, hsz, hP, hK, hD0, hNw⟩ := hv
    have hx := B.exec
    have hb := B.bytes
    have hr := B.returns
    have htt : ∀ w ∈ gtbl, w.before _ s = true := fun w h => atoms_spec (ws := us_Pai_paintable) B.pre w (List.mem_cons_of_mem _ h)
    have hown : s.vm.findClass R_Pai = some m.cls := findClass_of_methodNamed B.named
    have hlocks := B.notSynchronized
    subst hsz
    have hD := hD0.self (sz := s.heap.size)
    generalize hAe : va_A (wd_Pai_paintable cI cJ cG cZ a0 a0_paint a0_near a0_free a0_uses r0_free v0_items v0_evenly v0_palette v0_share v0_bigger v0_bigNow w0_near w0_uses w0_free) s.heap.size = A at hD ⊢
    have hA : ∀ q : Nat, s.heap.size ≤ q → A q := fun q h => by rw [← hAe]; exact Or.inr h
    clear hAe hD0
    have hS : va_S A s.heap s.heap [] := va_S.rf
    have hl := lv_entry ([.ref a0, .int p1, .int p2]) (n := 10) (Nat.le_of_ble_eq_true rfl)
    rw [lg_entry_eq]
    generalize (lg_sl ([.ref a0, .int p1, .int p2]) ++ List.replicate (10 - (lg_sl ([.ref a0, .int p1, .int p2])).length) Slot.unset).toArray = ls at hl ⊢
    have hl : lv_has ls 10 [(0, .ref a0), (1, .int p1), (2, .int p2)] := hl
    generalize hH : s.heap = H at hP ⊢
    have hS : va_S A s.heap H [] := hH ▸ hS
    generalize hLo : ([] : List Loc) = locs at hS ⊢
    clear hH hLo
    have hm := mr_Pai_paintable_s hm
    refine lv_iload_n hx hb d_Pai_paintable_0 rfl (lv_at hl 1 rfl) ?_
    refine lv_bipush (v := 16) hx hb d_Pai_paintable_1 (by decide) ?_
    refine lv_icmp_le (tgt := 16) hx hb d_Pai_paintable_3 (by decide) (fun c_1 => ?_) (fun c_1 => ?_)
    · have hm := ite_t c_1 hm
      refine lv_aload_n hx hb d_Pai_paintable_16 rfl (lv_at hl 0 rfl) ?_
      refine va_get (D := (dC, dI)) (ci := 2) (v := .int v0_evenly) (C := R_Pai) (T := T_Pai) (N := 10) hx hb htt hin_Pai hown hK hP 0 rfl rfl 5 (by decide) (htt _ kt_87) (fun _ h9 => h9) rfl d_Pai_paintable_17 ?_
      obtain ⟨J_34, hJ_34, hm⟩ := gB_x hm
      have jp_34 : ∀ (ls : Array Slot) (H : Heap) (locs : List Loc), J_34 = some (ret, o_v0_bigNow, o_w0_uses, o_w0_free) → lv_has ls 10 [(0, .ref a0), (1, .int p1), (2, .int p2)] → va_P (dC, dI) vwCl (wd_Pai_paintable cI cJ cG cZ a0 a0_paint a0_near a0_free a0_uses r0_free v0_items v0_evenly v0_palette v0_share v0_bigger v0_bigNow w0_near w0_uses w0_free) H → va_D A (wd_Pai_paintable cI cJ cG cZ a0 a0_paint a0_near a0_free a0_uses r0_free v0_items v0_evenly v0_palette v0_share v0_bigger v0_bigNow w0_near w0_uses w0_free) → va_S A s.heap H locs → W p l e (headSpec us_Pai_paintable (rm_Pai_paintable (d + 1))).room s m ([.ref a0, .int p1, .int p2] : List Value).toArray below meth c H locs 0 0 (MQ below (va_Qi (fun (r : Int32) (_ : Unit) => ret = r ∧ bz r) (fun _ t => PoS (dC, dI) (tyL cI cJ cG cZ) (wd_Pai_paintable cI cJ cG cZ a0 a0_paint a0_near a0_free a0_uses r0_free v0_items v0_evenly v0_palette v0_share v0_bigger o_v0_bigNow w0_near o_w0_uses o_w0_free) A t) A) ([.ref a0, .int p1, .int p2] : List Value).toArray s 0 0 A) (F0 m 34 ls []) := by
        intro ls H locs hm hl hP hD hS
        have hm := jn0 hJ_34 hm
        refine lv_aload_n hx hb d_Pai_paintable_34 rfl (lv_at hl 0 rfl) ?_
        refine va_get (D := (dC, dI)) (ci := 2) (v := .int v0_evenly) (C := R_Pai) (T := T_Pai) (N := 10) hx hb htt hin_Pai hown hK hP 0 rfl rfl 5 (by decide) (htt _ kt_87) (fun _ h9 => h9) rfl d_Pai_paintable_35 ?_
        obtain ⟨J_51, hJ_51, hm⟩ := gB_x hm
        have jp_51 : ∀ (s_2 : Int32) (ls : Array Slot) (H : Heap) (locs : List Loc), J_51 s_2 = some (ret, o_v0_bigNow, o_w0_uses, o_w0_free) → lv_has ls 10 [(0, .ref a0), (1, .int p1)] → va_P (dC, dI) vwCl (wd_Pai_paintable cI cJ cG cZ a0 a0_paint a0_near a0_free a0_uses r0_free v0_items v0_evenly v0_palette v0_share v0_bigger v0_bigNow w0_near w0_uses w0_free) H → va_D A (wd_Pai_paintable cI cJ cG cZ a0 a0_paint a0_near a0_free a0_uses r0_free v0_items v0_evenly v0_palette v0_share v0_bigger v0_bigNow w0_near w0_uses w0_free) → va_S A s.heap H locs → W p l e (headSpec us_Pai_paintable (rm_Pai_paintable (d + 1))).room s m ([.ref a0, .int p1, .int p2] : List Value).toArray below meth c H locs 0 0 (MQ below (va_Qi (fun (r : Int32) (_ : Unit) => ret = r ∧ bz r) (fun _ t => PoS (dC, dI) (tyL cI cJ cG cZ) (wd_Pai_paintable cI cJ cG cZ a0 a0_paint a0_near a0_free a0_uses r0_free v0_items v0_evenly v0_palette v0_share v0_bigger o_v0_bigNow w0_near o_w0_uses o_w0_free) A t) A) ([.ref a0, .int p1, .int p2] : List Value).toArray s 0 0 A) (F0 m 51 ls [.int s_2]) := by
          intro s_2 ls H locs hm hl hP hD hS
          have hm := jn1 hJ_51 hm
          refine lv_istore_n (lv' := [(3, .int s_2), (0, .ref a0), (1, .int p1)]) hx hb d_Pai_paintable_51 rfl hl (by decide) rfl (fun ls hl => ?_)
          refine lv_iload_n hx hb d_Pai_paintable_52 rfl (lv_at hl 0 rfl) ?_
          refine lv_if_ne (tgt := 58) hx hb d_Pai_paintable_53 (by decide) (fun c_3 => ?_) (fun c_3 => ?_)
          · have hm := ite_f c_3 hm
            refine lv_aload_n hx hb d_Pai_paintable_58 rfl (lv_at hl 1 rfl) ?_
            obtain ⟨q_4, hc_5, hm⟩ := gM_e hm
            have hPc : va_P (dC, dI) vwCl (wd_Pai_openColours cI cJ cG cZ a0 a0_paint a0_near a0_free a0_uses v0_items v0_evenly v0_palette v0_share v0_bigger v0_bigNow w0_uses) H := hP.sub [0, 3] rfl
            have hDc : va_D A (wd_Pai_openColours cI cJ cG cZ a0 a0_paint a0_near a0_free a0_uses v0_items v0_evenly v0_palette v0_share v0_bigger v0_bigNow w0_uses) := hD.sub [0, 3] (by decide) rfl
            have hFc : ∀ q, va_A (wd_Pai_openColours cI cJ cG cZ a0 a0_paint a0_near a0_free a0_uses v0_items v0_evenly v0_palette v0_share v0_bigger v0_bigNow w0_uses) H.size q → A q := va_free hD hS hA [0, 3] rfl
            refine va_calli (va_runV (As := []) (rest := []) ⟨hx, hb, hml, hown, htt⟩ (c_Pai_openColours l dC dI cI cJ cG cZ a0 a0_paint a0_near a0_free a0_uses H.size F v0_items v0_evenly v0_palette v0_share v0_bigger v0_bigNow w0_uses q_4 hc_5) (cwV 0 htt (gdV kt_328 kt_330 kp_4 kt_3 kt_331) rfl rfl rfl (by decide +kernel) ⟨(by show 1 ≤ d + 1 + 2; omega), (by show 23 ≤ (d + 1) * 29 + 50; omega)⟩) ⟨PcS_blind, va_recv hK hPc (ci := 2) (q0 := 0) rfl rfl, PcS_in hPc hK hDc hNw⟩ rfl rfl hl.1 rfl (lv_room (Nat.le_of_ble_eq_true rfl)) d_Pai_paintable_59 ⟨Nat.zero_le _, Nat.zero_le _⟩) hS (fun q _ h => hFc q h) hFc (fun r_6 u t H1 locs ht hvm hw hB hz1 hk1 hS => ?_)
            obtain ⟨hP1, hK1, hD1⟩ := hB
            rw [ht] at hP1
            subst hw
            obtain ⟨hP, hD⟩ := va_joinQ (wr := [(a0_near, .inl (cI, 16, .inl w0_near)), (a0_free, .inl (cG, 18, .inr (.inr (.inr (.inr (gO r0_free 18))))))]) (w1 := (wd_Pai_openColours cI cJ cG cZ a0 a0_paint a0_near a0_free a0_uses v0_items v0_evenly v0_palette v0_share v0_bigger v0_bigNow w0_uses)) hP hD [0, 3] [1, 2] rfl rfl (by decide) (by decide) hk1 hFc hP1 hD1
            have hP : va_P (dC, dI) vwCl (wd_Pai_paintable cI cJ cG cZ a0 a0_paint a0_near a0_free a0_uses r0_free v0_items v0_evenly v0_palette v0_share v0_bigger v0_bigNow w0_near w0_uses w0_free) H1 := hP.part [2, 0, 1, 3] rfl
            have hD : va_D A (wd_Pai_paintable cI cJ cG cZ a0 a0_paint a0_near a0_free a0_uses r0_free v0_items v0_evenly v0_palette v0_share v0_bigger v0_bigNow w0_near w0_uses w0_free) := hD.part [2, 0, 1, 3] (by decide) rfl
            clear hP1 hK1 hD1 hk1 hPc hDc hFc ht hvm hz1
            generalize H1 = H at hP hS ⊢
            refine lv_istore (lv' := [(4, .int q_4), (3, .int s_2), (0, .ref a0), (1, .int p1)]) hx hb d_Pai_paintable_62 hl (by decide) rfl (fun ls hl => ?_)
            refine lv_aload_n hx hb d_Pai_paintable_64 rfl (lv_at hl 2 rfl) ?_
            refine lv_iload_n hx hb d_Pai_paintable_65 rfl (lv_at hl 3 rfl) ?_
            refine lv_iload_n hx hb d_Pai_paintable_66 rfl (lv_at hl 1 rfl) ?_
            refine lv_iload hx hb d_Pai_paintable_67 (lv_at hl 0 rfl) ?_
            obtain ⟨q_7, hc_8, hm⟩ := gM_e hm
            have hPc : va_P (dC, dI) vwCl (wd_Pai_tightest cI cJ cG cZ a0 a0_paint a0_near a0_free a0_uses r0_free v0_items v0_evenly v0_palette v0_share v0_bigger v0_bigNow w0_near w0_free) H := hP.part [0, 1, 2] rfl
            have hDc : va_D A (wd_Pai_tightest cI cJ cG cZ a0 a0_paint a0_near a0_free a0_uses r0_free v0_items v0_evenly v0_palette v0_share v0_bigger v0_bigNow w0_near w0_free) := hD.part [0, 1, 2] (by decide) rfl
            have hFc : ∀ q, va_A (wd_Pai_tightest cI cJ cG cZ a0 a0_paint a0_near a0_free a0_uses r0_free v0_items v0_evenly v0_palette v0_share v0_bigger v0_bigNow w0_near w0_free) H.size q → A q := va_freeP hD hS hA [0, 1, 2] rfl
            refine va_calli (va_runV (As := [.int p1, .int s_2, .int q_4]) (rest := []) ⟨hx, hb, hml, hown, htt⟩ (c_Pai_tightest l dC dI cI cJ cG cZ a0 a0_paint a0_near a0_free a0_uses r0_free H.size F v0_items v0_evenly v0_palette v0_share v0_bigger v0_bigNow w0_near w0_free p1 s_2 q_4 q_7 hc_8) (cwV 3 htt (gdV kt_332 kt_334 kp_5 kt_3 kt_335) rfl rfl rfl (by decide +kernel) ⟨(by show 2 ≤ d + 1 + 2; omega), (by show 47 ≤ (d + 1) * 29 + 50; omega)⟩) ⟨PcS_blind, va_recv hK hPc (ci := 2) (q0 := 0) rfl rfl, PcS_in hPc hK hDc hNw⟩ rfl rfl hl.1 rfl (lv_room (Nat.le_of_ble_eq_true rfl)) d_Pai_paintable_69 ⟨Nat.zero_le _, Nat.zero_le _⟩) hS (fun q _ h => hFc q h) hFc (fun r_9 u t H1 locs ht hvm hw hB hz1 hk1 hS => ?_)
            obtain ⟨hP1, hK1, hD1⟩ := hB
            rw [ht] at hP1
            subst hw
            obtain ⟨hP, hD⟩ := va_joinP (wr := [(a0_uses, .inl (cI, 12, .inl w0_uses))]) (rx := (we_Pai_tightest cI cJ cG cZ a0 a0_paint a0_near a0_free a0_uses r0_free v0_items v0_evenly v0_palette v0_share v0_bigger v0_bigNow w0_near w0_free)) hP hD [0, 1, 2] [3] rfl rfl (by decide) (by decide) hk1 hFc hP1 hD1
            have hP : va_P (dC, dI) vwCl (wd_Pai_paintable cI cJ cG cZ a0 a0_paint a0_near a0_free a0_uses r0_free v0_items v0_evenly v0_palette v0_share v0_bigger v0_bigNow w0_near w0_uses w0_free) H1 := hP.part [1, 2, 3, 0] rfl
            have hD : va_D A (wd_Pai_paintable cI cJ cG cZ a0 a0_paint a0_near a0_free a0_uses r0_free v0_items v0_evenly v0_palette v0_share v0_bigger v0_bigNow w0_near w0_uses w0_free) := hD.part [1, 2, 3, 0] (by decide) rfl
            clear hP1 hK1 hD1 hk1 hPc hDc hFc ht hvm hz1
            generalize H1 = H at hP hS ⊢
            refine lv_istore (lv' := [(5, .int q_7), (4, .int q_4), (3, .int s_2), (0, .ref a0), (1, .int p1)]) hx hb d_Pai_paintable_72 hl (by decide) rfl (fun ls hl => ?_)
            refine lv_aload_n hx hb d_Pai_paintable_74 rfl (lv_at hl 3 rfl) ?_
            refine va_get (D := (dC, dI)) (ci := 2) (v := .ref a0_free) (C := R_Pai) (T := T_Pai) (N := 10) hx hb htt hin_Pai hown hK hP 0 rfl rfl 2 (by decide) (htt _ kt_84) (fun _ h9 => h9) rfl d_Pai_paintable_75 ?_
            refine lv_iload_n hx hb d_Pai_paintable_78 rfl (lv_at hl 4 rfl) ?_
            obtain ⟨hi_10, hm⟩ := gC_e hm
            have hj_11 := inb_lt hi_10
            refine gx_ald hx hb hK hP 2 2 rfl rfl (inb_vp hi_10) d_Pai_paintable_79 ?_
            refine lv_iload hx hb d_Pai_paintable_80 (lv_at hl 0 rfl) ?_
            obtain ⟨hi_12, hm⟩ := gC_e hm
            refine va_iald hx hb hK hP (4 + p1.toNatClampNeg) 0 (rows_get rfl hj_11) rfl (inb_vp hi_12) d_Pai_paintable_82 ?_
            refine lv_iload hx hb d_Pai_paintable_83 (lv_at hl 1 rfl) ?_
            refine lv_iand hx hb d_Pai_paintable_85 ?_
            refine lv_topi (fun x6_13 ex6_13 => ?_)
            have hm := gB_at ex6_13 hm
            refine lv_istore (lv' := [(6, .int x6_13), (5, .int q_7), (4, .int q_4), (3, .int s_2), (0, .ref a0), (1, .int p1)]) hx hb d_Pai_paintable_86 hl (by decide) rfl (fun ls hl => ?_)
            refine lv_iload_n hx hb d_Pai_paintable_88 rfl (lv_at hl 3 rfl) ?_
            refine lv_iconst (v := 1) hx hb d_Pai_paintable_89 (by decide) ?_
            refine lv_iload hx hb d_Pai_paintable_90 (lv_at hl 1 rfl) ?_
            refine lv_ishl hx hb d_Pai_paintable_92 ?_
            refine lv_iconst (v := (-1)) hx hb d_Pai_paintable_93 (by decide) ?_
            refine lv_ixor hx hb d_Pai_paintable_94 ?_
            refine lv_iand hx hb d_Pai_paintable_95 ?_
            refine lv_topi (fun x7_14 ex7_14 => ?_)
            have hm := gB_at ex7_14 hm
            refine lv_istore (lv' := [(7, .int x7_14), (6, .int x6_13), (5, .int q_7), (4, .int q_4), (3, .int s_2), (0, .ref a0), (1, .int p1)]) hx hb d_Pai_paintable_96 hl (by decide) rfl (fun ls hl => ?_)
            refine lv_iconst (v := 0) hx hb d_Pai_paintable_98 (by decide) ?_
            refine lv_istore (lv' := [(8, .int 0), (7, .int x7_14), (6, .int x6_13), (5, .int q_7), (4, .int q_4), (3, .int s_2), (0, .ref a0), (1, .int p1)]) hx hb d_Pai_paintable_99 hl (by decide) rfl (fun ls hl => ?_)
            refine gL_e (P := (fun (z_101 : Int32 × Int32 × (Nat → Int32) × (Nat → Nat → Int32)) => ∀ (x8_15 : Int32), ∀ (v0_bigNow_16 : Int32), ∀ (w0_uses_17 : Nat → Int32), ∀ (w0_free_18 : Nat → Nat → Int32), z_101 = (x8_15, v0_bigNow_16, w0_uses_17, w0_free_18) → ∀ (ls : Array Slot) (H : Heap) (locs : List Loc), lv_has ls 10 [(0, .ref a0), (1, .int p1), (5, .int q_7), (6, .int x6_13), (7, .int x7_14), (8, .int x8_15)] → va_P (dC, dI) vwCl (wd_Pai_paintable cI cJ cG cZ a0 a0_paint a0_near a0_free a0_uses r0_free v0_items v0_evenly v0_palette v0_share v0_bigger v0_bigNow_16 w0_near w0_uses_17 w0_free_18) H → va_D A (wd_Pai_paintable cI cJ cG cZ a0 a0_paint a0_near a0_free a0_uses r0_free v0_items v0_evenly v0_palette v0_share v0_bigger v0_bigNow_16 w0_near w0_uses_17 w0_free_18) → va_S A s.heap H locs → W p l e (headSpec us_Pai_paintable (rm_Pai_paintable (d + 1))).room s m ([.ref a0, .int p1, .int p2] : List Value).toArray below meth c H locs 0 0 (MQ below (va_Qi (fun (r : Int32) (_ : Unit) => ret = r ∧ bz r) (fun _ t => PoS (dC, dI) (tyL cI cJ cG cZ) (wd_Pai_paintable cI cJ cG cZ a0 a0_paint a0_near a0_free a0_uses r0_free v0_items v0_evenly v0_palette v0_share v0_bigger o_v0_bigNow w0_near o_w0_uses o_w0_free) A t) A) ([.ref a0, .int p1, .int p2] : List Value).toArray s 0 0 A) (F0 m 101 ls []))) hm (fun k_101 z_101 ih_101 hm => ?_) _ _ _ _ rfl ls H locs (lv_sub hl [6, 7, 3, 2, 1, 0] rfl) hP hD hS
            intro x8_15 v0_bigNow_16 w0_uses_17 w0_free_18 hz ls H locs hl hP hD hS
            subst hz
            dsimp only at hm
            refine lv_iload hx hb d_Pai_paintable_101 (lv_at hl 5 rfl) ?_
            refine lv_aload_n hx hb d_Pai_paintable_103 rfl (lv_at hl 0 rfl) ?_
            refine va_get (D := (dC, dI)) (ci := 2) (v := .int v0_palette) (C := R_Pai) (T := T_Pai) (N := 10) hx hb htt hin_Pai hown hK hP 0 rfl rfl 6 (by decide) (htt _ kt_88) (fun _ h9 => h9) rfl d_Pai_paintable_104 ?_
            refine lv_icmp_ge (tgt := 195) hx hb d_Pai_paintable_107 (by decide) (fun c_19 => ?_) (fun c_19 => ?_)
            · have hm := ite_t c_19 hm
              refine lv_iconst (v := 0) hx hb d_Pai_paintable_195 (by decide) ?_
              cases hm
              exact W.zret (ty := .boolean) hx hb hr (bz_nar (by decide : bz 0)) (fun t ht hW => ⟨⟨_, (), rfl, ⟨rfl, (by decide : bz 0)⟩, by rw [ht]; exact hP, va_K.moved hW.alike hK, hD⟩, hS.F ht⟩) hS.2.2 d_Pai_paintable_196
            · have hm := ite_f c_19 hm
              refine lv_iload hx hb d_Pai_paintable_110 (lv_at hl 3 rfl) ?_
              refine lv_iload hx hb d_Pai_paintable_112 (lv_at hl 5 rfl) ?_
              refine lv_ishr hx hb d_Pai_paintable_114 ?_
              refine lv_iconst (v := 1) hx hb d_Pai_paintable_115 (by decide) ?_
              refine lv_iand hx hb d_Pai_paintable_116 ?_
              refine lv_if_eq (tgt := 189) hx hb d_Pai_paintable_117 (by decide) (fun c_20 => ?_) (fun c_20 => ?_)
              · have hm := ite_t c_20 hm
                obtain ⟨x8_21, ex8_21⟩ : ∃ y : Int32, y = x8_15 + 1 := ⟨_, rfl⟩
                have hm := gB_at ex8_21 hm
                refine lv_iinc (v := x8_21) (lv' := [(8, .int x8_21), (0, .ref a0), (1, .int p1), (5, .int q_7), (6, .int x6_13), (7, .int x7_14)]) hx hb d_Pai_paintable_189 hl (k := 5) rfl (by rw [ex8_21]; rfl) (by decide) rfl (fun ls hl => ?_)
                refine lv_goto (tgt := 101) hx hb d_Pai_paintable_192 (by decide) ?_
                exact ih_101 _ hm _ _ _ _ rfl ls H locs (lv_sub hl [1, 2, 3, 4, 5, 0] rfl) hP hD hS
              · have hm := ite_f c_20 hm
                refine lv_aload_n hx hb d_Pai_paintable_120 rfl (lv_at hl 0 rfl) ?_
                refine lv_iload_n hx hb d_Pai_paintable_121 rfl (lv_at hl 1 rfl) ?_
                refine lv_iload hx hb d_Pai_paintable_122 (lv_at hl 4 rfl) ?_
                refine lv_iload hx hb d_Pai_paintable_124 (lv_at hl 3 rfl) ?_
                refine lv_iload hx hb d_Pai_paintable_126 (lv_at hl 5 rfl) ?_
                obtain ⟨q_22, hc_23, hm⟩ := gM_e hm
                have hPc : va_P (dC, dI) vwCl (wd_Pai_likeEarlier cI cJ cG cZ a0 a0_paint a0_near a0_free a0_uses r0_free v0_items v0_evenly v0_palette v0_share v0_bigger v0_bigNow_16 w0_uses_17 w0_free_18) H := hP.part [0, 2, 3] rfl
                have hDc : va_D A (wd_Pai_likeEarlier cI cJ cG cZ a0 a0_paint a0_near a0_free a0_uses r0_free v0_items v0_evenly v0_palette v0_share v0_bigger v0_bigNow_16 w0_uses_17 w0_free_18) := hD.part [0, 2, 3] (by decide) rfl
                have hFc : ∀ q, va_A (wd_Pai_likeEarlier cI cJ cG cZ a0 a0_paint a0_near a0_free a0_uses r0_free v0_items v0_evenly v0_palette v0_share v0_bigger v0_bigNow_16 w0_uses_17 w0_free_18) H.size q → A q := va_freeP hD hS hA [0, 2, 3] rfl
                refine va_calli (va_runV (As := [.int p1, .int x7_14, .int x6_13, .int x8_15]) (rest := []) ⟨hx, hb, hml, hown, htt⟩ (c_Pai_likeEarlier l dC dI cI cJ cG cZ a0 a0_paint a0_near a0_free a0_uses r0_free H.size F v0_items v0_evenly v0_palette v0_share v0_bigger v0_bigNow_16 w0_uses_17 w0_free_18 p1 x7_14 x6_13 x8_15 q_22 hc_23) (cwV 4 htt (gdV kt_337 kt_339 kp_6 kt_3 kt_340) rfl rfl rfl (by decide +kernel) ⟨(by show 2 ≤ d + 1 + 2; omega), (by show 50 ≤ (d + 1) * 29 + 50; omega)⟩) ⟨PcS_blind, va_recv hK hPc (ci := 2) (q0 := 0) rfl rfl, PcS_in hPc hK hDc hNw⟩ rfl rfl hl.1 rfl (lv_room (Nat.le_of_ble_eq_true rfl)) d_Pai_paintable_128 ⟨Nat.zero_le _, Nat.zero_le _⟩) hS (fun q _ h => hFc q h) hFc (fun r_24 u t H1 locs ht hvm hw hB hz1 hk1 hS => ?_)
                obtain ⟨hP1, hK1, hD1⟩ := hB
                rw [ht] at hP1
                obtain ⟨hw, hz_25⟩ := hw
                subst hw
                obtain ⟨hP, hD⟩ := va_joinP (wr := [(a0_near, .inl (cI, 16, .inl w0_near))]) (rx := (we_Pai_likeEarlier cI cJ cG cZ a0 a0_paint a0_near a0_free a0_uses r0_free v0_items v0_evenly v0_palette v0_share v0_bigger v0_bigNow_16 w0_uses_17 w0_free_18)) hP hD [0, 2, 3] [1] rfl rfl (by decide) (by decide) hk1 hFc hP1 hD1
                have hP : va_P (dC, dI) vwCl (wd_Pai_paintable cI cJ cG cZ a0 a0_paint a0_near a0_free a0_uses r0_free v0_items v0_evenly v0_palette v0_share v0_bigger v0_bigNow_16 w0_near w0_uses_17 w0_free_18) H1 := hP.part [1, 0, 2, 3] rfl
                have hD : va_D A (wd_Pai_paintable cI cJ cG cZ a0 a0_paint a0_near a0_free a0_uses r0_free v0_items v0_evenly v0_palette v0_share v0_bigger v0_bigNow_16 w0_near w0_uses_17 w0_free_18) := hD.part [1, 0, 2, 3] (by decide) rfl
                clear hP1 hK1 hD1 hk1 hPc hDc hFc ht hvm hz1
                generalize H1 = H at hP hS ⊢
                refine lv_if_eq (tgt := 137) hx hb d_Pai_paintable_131 (by decide) (fun c_26 => ?_) (fun c_26 => ?_)
                · have hm := ite_t c_26 hm
                  refine lv_aload_n hx hb d_Pai_paintable_137 rfl (lv_at hl 0 rfl) ?_
                  refine lv_iload hx hb d_Pai_paintable_138 (lv_at hl 5 rfl) ?_
                  obtain ⟨⟨v0_bigNow_27, w0_uses_28⟩, hc_29, hm⟩ := gM_e hm
                  dsimp only at hm
                  have hPc : va_P (dC, dI) vwCl (wd_Pai_use cI cJ cG cZ a0 a0_paint a0_near a0_free a0_uses v0_items v0_evenly v0_palette v0_share v0_bigger v0_bigNow_16 w0_uses_17) H := hP.sub [0, 3] rfl
                  have hDc : va_D A (wd_Pai_use cI cJ cG cZ a0 a0_paint a0_near a0_free a0_uses v0_items v0_evenly v0_palette v0_share v0_bigger v0_bigNow_16 w0_uses_17) := hD.sub [0, 3] (by decide) rfl
                  have hFc : ∀ q, va_A (wd_Pai_use cI cJ cG cZ a0 a0_paint a0_near a0_free a0_uses v0_items v0_evenly v0_palette v0_share v0_bigger v0_bigNow_16 w0_uses_17) H.size q → A q := va_free hD hS hA [0, 3] rfl
                  refine va_callv (va_runV (As := [.int x8_15]) (rest := []) ⟨hx, hb, hml, hown, htt⟩ (c_Pai_use l dC dI cI cJ cG cZ a0 a0_paint a0_near a0_free a0_uses H.size F v0_items v0_evenly v0_palette v0_share v0_bigger v0_bigNow_16 w0_uses_17 x8_15 v0_bigNow_27 w0_uses_28 hc_29) (cwV 1 htt (gdV kt_345 kt_347 kp_8 kt_3 kt_348) rfl rfl rfl (by decide +kernel) ⟨(by show 1 ≤ d + 1 + 2; omega), (by show 21 ≤ (d + 1) * 29 + 50; omega)⟩) ⟨PcS_blind, va_recv hK hPc (ci := 2) (q0 := 0) rfl rfl, PcS_in hPc hK hDc hNw⟩ rfl rfl hl.1 rfl (lv_room (Nat.le_of_ble_eq_true rfl)) d_Pai_paintable_140 ⟨Nat.zero_le _, Nat.zero_le _⟩) hS (fun q _ h => hFc q h) hFc (fun u t H1 locs ht hvm hw hB hz1 hk1 hS => ?_)
                  obtain ⟨hP1, hK1, hD1⟩ := hB
                  rw [ht] at hP1
                  obtain ⟨hP, hD⟩ := va_joinQ (wr := [(a0_near, .inl (cI, 16, .inl w0_near)), (a0_free, .inl (cG, 18, .inr (.inr (.inr (.inr (gO r0_free 18))))))]) (w1 := (wd_Pai_use cI cJ cG cZ a0 a0_paint a0_near a0_free a0_uses v0_items v0_evenly v0_palette v0_share v0_bigger v0_bigNow_27 w0_uses_28)) hP hD [0, 3] [1, 2] rfl rfl (by decide) (by decide) hk1 hFc hP1 hD1
                  have hP : va_P (dC, dI) vwCl (wd_Pai_paintable cI cJ cG cZ a0 a0_paint a0_near a0_free a0_uses r0_free v0_items v0_evenly v0_palette v0_share v0_bigger v0_bigNow_27 w0_near w0_uses_28 w0_free_18) H1 := hP.part [2, 0, 1, 3] rfl
                  have hD : va_D A (wd_Pai_paintable cI cJ cG cZ a0 a0_paint a0_near a0_free a0_uses r0_free v0_items v0_evenly v0_palette v0_share v0_bigger v0_bigNow_27 w0_near w0_uses_28 w0_free_18) := hD.part [2, 0, 1, 3] (by decide) rfl
                  clear hP1 hK1 hD1 hk1 hPc hDc hFc ht hvm hz1
                  generalize H1 = H at hP hS ⊢
                  refine lv_aload_n hx hb d_Pai_paintable_143 rfl (lv_at hl 0 rfl) ?_
                  refine lv_iload_n hx hb d_Pai_paintable_144 rfl (lv_at hl 1 rfl) ?_
                  refine lv_iload hx hb d_Pai_paintable_145 (lv_at hl 4 rfl) ?_
                  refine lv_iload hx hb d_Pai_paintable_147 (lv_at hl 2 rfl) ?_
                  refine lv_iload hx hb d_Pai_paintable_149 (lv_at hl 5 rfl) ?_
                  obtain ⟨⟨q_31, w0_free_32⟩, hc_33, hm⟩ := gM_e hm
                  dsimp only at hm
                  have hPc : va_P (dC, dI) vwCl (wd_Pai_spread cI cJ cG cZ a0 a0_paint a0_near a0_free a0_uses r0_free v0_items v0_evenly v0_palette v0_share v0_bigger v0_bigNow_27 w0_near w0_free_18) H := hP.part [0, 1, 2] rfl
                  have hDc : va_D A (wd_Pai_spread cI cJ cG cZ a0 a0_paint a0_near a0_free a0_uses r0_free v0_items v0_evenly v0_palette v0_share v0_bigger v0_bigNow_27 w0_near w0_free_18) := hD.part [0, 1, 2] (by decide) rfl
                  have hFc : ∀ q, va_A (wd_Pai_spread cI cJ cG cZ a0 a0_paint a0_near a0_free a0_uses r0_free v0_items v0_evenly v0_palette v0_share v0_bigger v0_bigNow_27 w0_near w0_free_18) H.size q → A q := va_freeP hD hS hA [0, 1, 2] rfl
                  refine va_calli (va_runV (As := [.int p1, .int x7_14, .int q_7, .int x8_15]) (rest := []) ⟨hx, hb, hml, hown, htt⟩ (c_Pai_spread l dC dI cI cJ cG cZ a0 a0_paint a0_near a0_free a0_uses r0_free H.size F v0_items v0_evenly v0_palette v0_share v0_bigger v0_bigNow_27 w0_near w0_free_18 p1 x7_14 q_7 x8_15 q_31 w0_free_32 hc_33) (cwV 4 htt (gdV kt_349 kt_351 kp_9 kt_3 kt_352) rfl rfl rfl (by decide +kernel) ⟨(by show 1 ≤ d + 1 + 2; omega), (by show 27 ≤ (d + 1) * 29 + 50; omega)⟩) ⟨PcS_blind, va_recv hK hPc (ci := 2) (q0 := 0) rfl rfl, PcS_in hPc hK hDc hNw⟩ rfl rfl hl.1 rfl (lv_room (Nat.le_of_ble_eq_true rfl)) d_Pai_paintable_151 ⟨Nat.zero_le _, Nat.zero_le _⟩) hS (fun q _ h => hFc q h) hFc (fun r_35 u t H1 locs ht hvm hw hB hz1 hk1 hS => ?_)
                  obtain ⟨hP1, hK1, hD1⟩ := hB
                  rw [ht] at hP1
                  obtain ⟨hw, hz_36⟩ := hw
                  subst hw
                  obtain ⟨hP, hD⟩ := va_joinP (wr := [(a0_uses, .inl (cI, 12, .inl w0_uses_28))]) (rx := (we_Pai_spread cI cJ cG cZ a0 a0_paint a0_near a0_free a0_uses r0_free v0_items v0_evenly v0_palette v0_share v0_bigger v0_bigNow_27 w0_near w0_free_32)) hP hD [0, 1, 2] [3] rfl rfl (by decide) (by decide) hk1 hFc hP1 hD1
                  have hP : va_P (dC, dI) vwCl (wd_Pai_paintable cI cJ cG cZ a0 a0_paint a0_near a0_free a0_uses r0_free v0_items v0_evenly v0_palette v0_share v0_bigger v0_bigNow_27 w0_near w0_uses_28 w0_free_32) H1 := hP.part [1, 2, 3, 0] rfl
                  have hD : va_D A (wd_Pai_paintable cI cJ cG cZ a0 a0_paint a0_near a0_free a0_uses r0_free v0_items v0_evenly v0_palette v0_share v0_bigger v0_bigNow_27 w0_near w0_uses_28 w0_free_32) := hD.part [1, 2, 3, 0] (by decide) rfl
                  clear hP1 hK1 hD1 hk1 hPc hDc hFc ht hvm hz1
                  generalize H1 = H at hP hS ⊢
                  obtain ⟨J_174, hJ_174, hm⟩ := gB_x hm
                  have jp_174 : ∀ (s_37 : Int32) (v0_bigNow_38 : Int32) (w0_uses_39 : Nat → Int32) (w0_free_40 : Nat → Nat → Int32) (ls : Array Slot) (H : Heap) (locs : List Loc), J_174 s_37 v0_bigNow_38 w0_uses_39 w0_free_40 = some (ret, o_v0_bigNow, o_w0_uses, o_w0_free) → lv_has ls 10 [(0, .ref a0), (1, .int p1), (5, .int q_7), (6, .int x6_13), (7, .int x7_14), (8, .int x8_15)] → va_P (dC, dI) vwCl (wd_Pai_paintable cI cJ cG cZ a0 a0_paint a0_near a0_free a0_uses r0_free v0_items v0_evenly v0_palette v0_share v0_bigger v0_bigNow_38 w0_near w0_uses_39 w0_free_40) H → va_D A (wd_Pai_paintable cI cJ cG cZ a0 a0_paint a0_near a0_free a0_uses r0_free v0_items v0_evenly v0_palette v0_share v0_bigger v0_bigNow_38 w0_near w0_uses_39 w0_free_40) → va_S A s.heap H locs → W p l e (headSpec us_Pai_paintable (rm_Pai_paintable (d + 1))).room s m ([.ref a0, .int p1, .int p2] : List Value).toArray below meth c H locs 0 0 (MQ below (va_Qi (fun (r : Int32) (_ : Unit) => ret = r ∧ bz r) (fun _ t => PoS (dC, dI) (tyL cI cJ cG cZ) (wd_Pai_paintable cI cJ cG cZ a0 a0_paint a0_near a0_free a0_uses r0_free v0_items v0_evenly v0_palette v0_share v0_bigger o_v0_bigNow w0_near o_w0_uses o_w0_free) A t) A) ([.ref a0, .int p1, .int p2] : List Value).toArray s 0 0 A) (F0 m 174 ls [.int s_37]) := by
                    intro s_37 v0_bigNow_38 w0_uses_39 w0_free_40 ls H locs hm hl hP hD hS
                    have hm := jn4 hJ_174 hm
                    refine lv_istore (lv' := [(9, .int s_37), (0, .ref a0), (1, .int p1), (5, .int q_7), (6, .int x6_13), (7, .int x7_14), (8, .int x8_15)]) hx hb d_Pai_paintable_174 hl (by decide) rfl (fun ls hl => ?_)
                    refine lv_aload_n hx hb d_Pai_paintable_176 rfl (lv_at hl 1 rfl) ?_
                    refine lv_iload hx hb d_Pai_paintable_177 (lv_at hl 6 rfl) ?_
                    obtain ⟨⟨v0_bigNow_41, w0_uses_42⟩, hc_43, hm⟩ := gM_e hm
                    dsimp only at hm
                    have hPc : va_P (dC, dI) vwCl (wd_Pai_unuse cI cJ cG cZ a0 a0_paint a0_near a0_free a0_uses v0_items v0_evenly v0_palette v0_share v0_bigger v0_bigNow_38 w0_uses_39) H := hP.sub [0, 3] rfl
                    have hDc : va_D A (wd_Pai_unuse cI cJ cG cZ a0 a0_paint a0_near a0_free a0_uses v0_items v0_evenly v0_palette v0_share v0_bigger v0_bigNow_38 w0_uses_39) := hD.sub [0, 3] (by decide) rfl
                    have hFc : ∀ q, va_A (wd_Pai_unuse cI cJ cG cZ a0 a0_paint a0_near a0_free a0_uses v0_items v0_evenly v0_palette v0_share v0_bigger v0_bigNow_38 w0_uses_39) H.size q → A q := va_free hD hS hA [0, 3] rfl
                    refine va_callv (va_runV (As := [.int x8_15]) (rest := []) ⟨hx, hb, hml, hown, htt⟩ (c_Pai_unuse l dC dI cI cJ cG cZ a0 a0_paint a0_near a0_free a0_uses H.size F v0_items v0_evenly v0_palette v0_share v0_bigger v0_bigNow_38 w0_uses_39 x8_15 v0_bigNow_41 w0_uses_42 hc_43) (cwV 1 htt (gdV kt_353 kt_355 kp_10 kt_3 kt_356) rfl rfl rfl (by decide +kernel) ⟨(by show 1 ≤ d + 1 + 2; omega), (by show 21 ≤ (d + 1) * 29 + 50; omega)⟩) ⟨PcS_blind, va_recv hK hPc (ci := 2) (q0 := 0) rfl rfl, PcS_in hPc hK hDc hNw⟩ rfl rfl hl.1 rfl (lv_room (Nat.le_of_ble_eq_true rfl)) d_Pai_paintable_179 ⟨Nat.zero_le _, Nat.zero_le _⟩) hS (fun q _ h => hFc q h) hFc (fun u t H1 locs ht hvm hw hB hz1 hk1 hS => ?_)
                    obtain ⟨hP1, hK1, hD1⟩ := hB
                    rw [ht] at hP1
                    obtain ⟨hP, hD⟩ := va_joinQ (wr := [(a0_near, .inl (cI, 16, .inl w0_near)), (a0_free, .inl (cG, 18, .inr (.inr (.inr (.inr (gO r0_free 18))))))]) (w1 := (wd_Pai_unuse cI cJ cG cZ a0 a0_paint a0_near a0_free a0_uses v0_items v0_evenly v0_palette v0_share v0_bigger v0_bigNow_41 w0_uses_42)) hP hD [0, 3] [1, 2] rfl rfl (by decide) (by decide) hk1 hFc hP1 hD1
                    have hP : va_P (dC, dI) vwCl (wd_Pai_paintable cI cJ cG cZ a0 a0_paint a0_near a0_free a0_uses r0_free v0_items v0_evenly v0_palette v0_share v0_bigger v0_bigNow_41 w0_near w0_uses_42 w0_free_40) H1 := hP.part [2, 0, 1, 3] rfl
                    have hD : va_D A (wd_Pai_paintable cI cJ cG cZ a0 a0_paint a0_near a0_free a0_uses r0_free v0_items v0_evenly v0_palette v0_share v0_bigger v0_bigNow_41 w0_near w0_uses_42 w0_free_40) := hD.part [2, 0, 1, 3] (by decide) rfl
                    clear hP1 hK1 hD1 hk1 hPc hDc hFc ht hvm hz1
                    generalize H1 = H at hP hS ⊢
                    refine lv_iload hx hb d_Pai_paintable_182 (lv_at hl 0 rfl) ?_
                    refine lv_if_eq (tgt := 189) hx hb d_Pai_paintable_184 (by decide) (fun c_45 => ?_) (fun c_45 => ?_)
                    · have hm := ite_t c_45 hm
                      obtain ⟨x8_46, ex8_46⟩ : ∃ y : Int32, y = x8_15 + 1 := ⟨_, rfl⟩
                      have hm := gB_at ex8_46 hm
                      refine lv_iinc (v := x8_46) (lv' := [(8, .int x8_46), (9, .int s_37), (0, .ref a0), (1, .int p1), (5, .int q_7), (6, .int x6_13), (7, .int x7_14)]) hx hb d_Pai_paintable_189 hl (k := 6) rfl (by rw [ex8_46]; rfl) (by decide) rfl (fun ls hl => ?_)
                      refine lv_goto (tgt := 101) hx hb d_Pai_paintable_192 (by decide) ?_
                      exact ih_101 _ hm _ _ _ _ rfl ls H locs (lv_sub hl [2, 3, 4, 5, 6, 0] rfl) hP hD hS
                    · have hm := ite_f c_45 hm
                      refine lv_iconst (v := 1) hx hb d_Pai_paintable_187 (by decide) ?_
                      cases hm
                      exact W.zret (ty := .boolean) hx hb hr (bz_nar (by decide : bz 1)) (fun t ht hW => ⟨⟨_, (), rfl, ⟨rfl, (by decide : bz 1)⟩, by rw [ht]; exact hP, va_K.moved hW.alike hK, hD⟩, hS.F ht⟩) hS.2.2 d_Pai_paintable_188
                  clear hJ_174
                  obtain ⟨J_173, hJ_173, hm⟩ := gB_x hm
                  have jp_173 : ∀ (v0_bigNow_47 : Int32) (w0_uses_48 : Nat → Int32) (w0_free_49 : Nat → Nat → Int32) (ls : Array Slot) (H : Heap) (locs : List Loc), J_173 v0_bigNow_47 w0_uses_48 w0_free_49 = some (ret, o_v0_bigNow, o_w0_uses, o_w0_free) → lv_has ls 10 [(0, .ref a0), (1, .int p1), (5, .int q_7), (6, .int x6_13), (7, .int x7_14), (8, .int x8_15)] → va_P (dC, dI) vwCl (wd_Pai_paintable cI cJ cG cZ a0 a0_paint a0_near a0_free a0_uses r0_free v0_items v0_evenly v0_palette v0_share v0_bigger v0_bigNow_47 w0_near w0_uses_48 w0_free_49) H → va_D A (wd_Pai_paintable cI cJ cG cZ a0 a0_paint a0_near a0_free a0_uses r0_free v0_items v0_evenly v0_palette v0_share v0_bigger v0_bigNow_47 w0_near w0_uses_48 w0_free_49) → va_S A s.heap H locs → W p l e (headSpec us_Pai_paintable (rm_Pai_paintable (d + 1))).room s m ([.ref a0, .int p1, .int p2] : List Value).toArray below meth c H locs 0 0 (MQ below (va_Qi (fun (r : Int32) (_ : Unit) => ret = r ∧ bz r) (fun _ t => PoS (dC, dI) (tyL cI cJ cG cZ) (wd_Pai_paintable cI cJ cG cZ a0 a0_paint a0_near a0_free a0_uses r0_free v0_items v0_evenly v0_palette v0_share v0_bigger o_v0_bigNow w0_near o_w0_uses o_w0_free) A t) A) ([.ref a0, .int p1, .int p2] : List Value).toArray s 0 0 A) (F0 m 173 ls []) := by
                    intro v0_bigNow_47 w0_uses_48 w0_free_49 ls H locs hm hl hP hD hS
                    have hm := jn3 hJ_173 hm
                    refine lv_iconst (v := 0) hx hb d_Pai_paintable_173 (by decide) ?_
                    exact jp_174 _ _ _ _ ls H locs hm (lv_sub hl [0, 1, 2, 3, 4, 5] rfl) hP hD hS
                  clear hJ_173
                  refine lv_if_eq (tgt := 173) hx hb d_Pai_paintable_154 (by decide) (fun c_50 => ?_) (fun c_50 => ?_)
                  · have hm := ite_t c_50 hm
                    exact jp_173 _ _ _ ls H locs hm (lv_sub hl [0, 1, 2, 3, 4, 5] rfl) hP hD hS
                  · have hm := ite_f c_50 hm
                    refine lv_aload_n hx hb d_Pai_paintable_157 rfl (lv_at hl 0 rfl) ?_
                    refine lv_iload_n hx hb d_Pai_paintable_158 rfl (lv_at hl 1 rfl) ?_
                    refine lv_iconst (v := 1) hx hb d_Pai_paintable_159 (by decide) ?_
                    refine lv_iadd hx hb d_Pai_paintable_160 ?_
                    refine lv_iload hx hb d_Pai_paintable_161 (lv_at hl 4 rfl) ?_
                    obtain ⟨⟨q_51, v0_bigNow_52, w0_uses_53, w0_free_54⟩, hc_55, hm⟩ := gM_e hm
                    dsimp only at hm
                    have hPc : va_P (dC, dI) vwCl (wd_Pai_paintable cI cJ cG cZ a0 a0_paint a0_near a0_free a0_uses r0_free v0_items v0_evenly v0_palette v0_share v0_bigger v0_bigNow_27 w0_near w0_uses_28 w0_free_32) H := hP.part [0, 1, 2, 3] rfl
                    have hDc : va_D A (wd_Pai_paintable cI cJ cG cZ a0 a0_paint a0_near a0_free a0_uses r0_free v0_items v0_evenly v0_palette v0_share v0_bigger v0_bigNow_27 w0_near w0_uses_28 w0_free_32) := hD.part [0, 1, 2, 3] (by decide) rfl
                    have hFc : ∀ q, va_A (wd_Pai_paintable cI cJ cG cZ a0 a0_paint a0_near a0_free a0_uses r0_free v0_items v0_evenly v0_palette v0_share v0_bigger v0_bigNow_27 w0_near w0_uses_28 w0_free_32) H.size q → A q := va_freeP hD hS hA [0, 1, 2, 3] rfl
                    refine va_calli (va_runV (As := [.int (p1 + 1), .int x7_14]) (rest := []) ⟨hx, hb, hml, hown, htt⟩ (ihd a0 a0_paint a0_near a0_free a0_uses r0_free H.size v0_items v0_evenly v0_palette v0_share v0_bigger v0_bigNow_27 w0_near w0_uses_28 w0_free_32 (p1 + 1) x7_14 q_51 v0_bigNow_52 w0_uses_53 w0_free_54 hc_55) (cwV 2 htt (gdV kt_310 kt_312 kp_1 kt_3 kt_313) rfl rfl rfl (by decide +kernel) ⟨(by show d + 2 + 1 ≤ d + 1 + 2; omega), (by show 8 + (10 + 11) + (d * 29 + 50) ≤ (d + 1) * 29 + 50; omega)⟩) ⟨PcS_blind, va_recv hK hPc (ci := 2) (q0 := 0) rfl rfl, PcS_in hPc hK hDc hNw⟩ rfl rfl hl.1 rfl (lv_room (Nat.le_of_ble_eq_true rfl)) d_Pai_paintable_163 ⟨Nat.zero_le _, Nat.zero_le _⟩) hS (fun q _ h => hFc q h) hFc (fun r_57 u t H1 locs ht hvm hw hB hz1 hk1 hS => ?_)
                    obtain ⟨hP1, hK1, hD1⟩ := hB
                    rw [ht] at hP1
                    obtain ⟨hw, hz_58⟩ := hw
                    subst hw
                    obtain ⟨hP, hD⟩ := va_joinP (wr := []) (rx := (we_Pai_paintable cI cJ cG cZ a0 a0_paint a0_near a0_free a0_uses r0_free v0_items v0_evenly v0_palette v0_share v0_bigger v0_bigNow_52 w0_near w0_uses_53 w0_free_54)) hP hD [0, 1, 2, 3] [] rfl rfl (by decide) (by decide) hk1 hFc hP1 hD1
                    have hP : va_P (dC, dI) vwCl (wd_Pai_paintable cI cJ cG cZ a0 a0_paint a0_near a0_free a0_uses r0_free v0_items v0_evenly v0_palette v0_share v0_bigger v0_bigNow_52 w0_near w0_uses_53 w0_free_54) H1 := hP.part [0, 1, 2, 3] rfl
                    have hD : va_D A (wd_Pai_paintable cI cJ cG cZ a0 a0_paint a0_near a0_free a0_uses r0_free v0_items v0_evenly v0_palette v0_share v0_bigger v0_bigNow_52 w0_near w0_uses_53 w0_free_54) := hD.part [0, 1, 2, 3] (by decide) rfl
                    clear hP1 hK1 hD1 hk1 hPc hDc hFc ht hvm hz1
                    generalize H1 = H at hP hS ⊢
                    refine lv_if_eq (tgt := 173) hx hb d_Pai_paintable_166 (by decide) (fun c_59 => ?_) (fun c_59 => ?_)
                    · have hm := ite_t c_59 hm
                      exact jp_173 _ _ _ ls H locs hm (lv_sub hl [0, 1, 2, 3, 4, 5] rfl) hP hD hS
                    · have hm := ite_f c_59 hm
                      refine lv_iconst (v := 1) hx hb d_Pai_paintable_169 (by decide) ?_
                      refine lv_goto (tgt := 174) hx hb d_Pai_paintable_170 (by decide) ?_
                      exact jp_174 _ _ _ _ ls H locs hm (lv_sub hl [0, 1, 2, 3, 4, 5] rfl) hP hD hS
                · have hm := ite_f c_26 hm
                  refine lv_goto (tgt := 189) hx hb d_Pai_paintable_134 (by decide) ?_
                  obtain ⟨x8_60, ex8_60⟩ : ∃ y : Int32, y = x8_15 + 1 := ⟨_, rfl⟩
                  have hm := gB_at ex8_60 hm
                  refine lv_iinc (v := x8_60) (lv' := [(8, .int x8_60), (0, .ref a0), (1, .int p1), (5, .int q_7), (6, .int x6_13), (7, .int x7_14)]) hx hb d_Pai_paintable_189 hl (k := 5) rfl (by rw [ex8_60]; rfl) (by decide) rfl (fun ls hl => ?_)
                  refine lv_goto (tgt := 101) hx hb d_Pai_paintable_192 (by decide) ?_
                  exact ih_101 _ hm _ _ _ _ rfl ls H locs (lv_sub hl [1, 2, 3, 4, 5, 0] rfl) hP hD hS
          · have hm := ite_t c_3 hm
            refine lv_iconst (v := 1) hx hb d_Pai_paintable_56 (by decide) ?_
            cases hm
            exact W.zret (ty := .boolean) hx hb hr (bz_nar (by decide : bz 1)) (fun t ht hW => ⟨⟨_, (), rfl, ⟨rfl, (by decide : bz 1)⟩, by rw [ht]; exact hP, va_K.moved hW.alike hK, hD⟩, hS.F ht⟩) hS.2.2 d_Pai_paintable_57
        clear hJ_51
        refine lv_if_eq (tgt := 45) hx hb d_Pai_paintable_38 (by decide) (fun c_61 => ?_) (fun c_61 => ?_)
        · have hm := ite_t c_61 hm
          refine lv_aload_n hx hb d_Pai_paintable_45 rfl (lv_at hl 0 rfl) ?_
          refine lv_iload_n hx hb d_Pai_paintable_46 rfl (lv_at hl 1 rfl) ?_
          refine lv_iload_n hx hb d_Pai_paintable_47 rfl (lv_at hl 2 rfl) ?_
          obtain ⟨q_62, hc_63, hm⟩ := gM_e hm
          have hPc : va_P (dC, dI) vwCl (wd_Pai_withoutEasy cI cJ cG cZ a0 a0_paint a0_near a0_free a0_uses r0_free v0_items v0_evenly v0_palette v0_share v0_bigger v0_bigNow w0_near w0_free) H := hP.part [0, 1, 2] rfl
          have hDc : va_D A (wd_Pai_withoutEasy cI cJ cG cZ a0 a0_paint a0_near a0_free a0_uses r0_free v0_items v0_evenly v0_palette v0_share v0_bigger v0_bigNow w0_near w0_free) := hD.part [0, 1, 2] (by decide) rfl
          have hFc : ∀ q, va_A (wd_Pai_withoutEasy cI cJ cG cZ a0 a0_paint a0_near a0_free a0_uses r0_free v0_items v0_evenly v0_palette v0_share v0_bigger v0_bigNow w0_near w0_free) H.size q → A q := va_freeP hD hS hA [0, 1, 2] rfl
          refine va_calli (va_runV (As := [.int p1, .int p2]) (rest := []) ⟨hx, hb, hml, hown, htt⟩ (c_Pai_withoutEasy l dC dI cI cJ cG cZ a0 a0_paint a0_near a0_free a0_uses r0_free H.size F v0_items v0_evenly v0_palette v0_share v0_bigger v0_bigNow w0_near w0_free p1 p2 q_62 hc_63) (cwV 2 htt (gdV kt_318 kt_320 kp_3 kt_3 kt_321) rfl rfl rfl (by decide +kernel) ⟨(by show 2 ≤ d + 1 + 2; omega), (by show 46 ≤ (d + 1) * 29 + 50; omega)⟩) ⟨PcS_blind, va_recv hK hPc (ci := 2) (q0 := 0) rfl rfl, PcS_in hPc hK hDc hNw⟩ rfl rfl hl.1 rfl (lv_room (Nat.le_of_ble_eq_true rfl)) d_Pai_paintable_48 ⟨Nat.zero_le _, Nat.zero_le _⟩) hS (fun q _ h => hFc q h) hFc (fun r_64 u t H1 locs ht hvm hw hB hz1 hk1 hS => ?_)
          obtain ⟨hP1, hK1, hD1⟩ := hB
          rw [ht] at hP1
          subst hw
          obtain ⟨hP, hD⟩ := va_joinP (wr := [(a0_uses, .inl (cI, 12, .inl w0_uses))]) (rx := (we_Pai_withoutEasy cI cJ cG cZ a0 a0_paint a0_near a0_free a0_uses r0_free v0_items v0_evenly v0_palette v0_share v0_bigger v0_bigNow w0_near w0_free)) hP hD [0, 1, 2] [3] rfl rfl (by decide) (by decide) hk1 hFc hP1 hD1
          have hP : va_P (dC, dI) vwCl (wd_Pai_paintable cI cJ cG cZ a0 a0_paint a0_near a0_free a0_uses r0_free v0_items v0_evenly v0_palette v0_share v0_bigger v0_bigNow w0_near w0_uses w0_free) H1 := hP.part [1, 2, 3, 0] rfl
          have hD : va_D A (wd_Pai_paintable cI cJ cG cZ a0 a0_paint a0_near a0_free a0_uses r0_free v0_items v0_evenly v0_palette v0_share v0_bigger v0_bigNow w0_near w0_uses w0_free) := hD.part [1, 2, 3, 0] (by decide) rfl
          clear hP1 hK1 hD1 hk1 hPc hDc hFc ht hvm hz1
          generalize H1 = H at hP hS ⊢
          exact jp_51 _ ls H locs hm (lv_sub hl [0, 1] rfl) hP hD hS
        · have hm := ite_f c_61 hm
          refine lv_iload_n hx hb d_Pai_paintable_41 rfl (lv_at hl 2 rfl) ?_
          refine lv_goto (tgt := 51) hx hb d_Pai_paintable_42 (by decide) ?_
          exact jp_51 _ ls H locs hm (lv_sub hl [0, 1] rfl) hP hD hS
      clear hJ_34
      refine lv_if_eq (tgt := 34) hx hb d_Pai_paintable_20 (by decide) (fun c_65 => ?_) (fun c_65 => ?_)
      · have hm := ite_t c_65 hm
        exact jp_34 ls H locs hm (lv_sub hl [0, 1, 2] rfl) hP hD hS
      · have hm := ite_f c_65 hm
        refine lv_aload_n hx hb d_Pai_paintable_23 rfl (lv_at hl 0 rfl) ?_
        refine lv_iload_n hx hb d_Pai_paintable_24 rfl (lv_at hl 1 rfl) ?_
        refine lv_iload_n hx hb d_Pai_paintable_25 rfl (lv_at hl 2 rfl) ?_
        obtain ⟨q_66, hc_67, hm⟩ := gM_e hm
        have hPc : va_P (dC, dI) vwCl (wd_Pai_starved cI cJ cG cZ a0 a0_paint a0_near a0_free a0_uses r0_free v0_items v0_evenly v0_palette v0_share v0_bigger v0_bigNow w0_uses w0_free) H := hP.part [0, 2, 3] rfl
        have hDc : va_D A (wd_Pai_starved cI cJ cG cZ a0 a0_paint a0_near a0_free a0_uses r0_free v0_items v0_evenly v0_palette v0_share v0_bigger v0_bigNow w0_uses w0_free) := hD.part [0, 2, 3] (by decide) rfl
        have hFc : ∀ q, va_A (wd_Pai_starved cI cJ cG cZ a0 a0_paint a0_near a0_free a0_uses r0_free v0_items v0_evenly v0_palette v0_share v0_bigger v0_bigNow w0_uses w0_free) H.size q → A q := va_freeP hD hS hA [0, 2, 3] rfl
        refine va_calli (va_runV (As := [.int p1, .int p2]) (rest := []) ⟨hx, hb, hml, hown, htt⟩ (c_Pai_starved l dC dI cI cJ cG cZ a0 a0_paint a0_near a0_free a0_uses r0_free H.size F v0_items v0_evenly v0_palette v0_share v0_bigger v0_bigNow w0_uses w0_free p1 p2 q_66 hc_67) (cwV 2 htt (gdV kt_314 kt_316 kp_2 kt_3 kt_317) rfl rfl rfl (by decide +kernel) ⟨(by show 1 ≤ d + 1 + 2; omega), (by show 25 ≤ (d + 1) * 29 + 50; omega)⟩) ⟨PcS_blind, va_recv hK hPc (ci := 2) (q0 := 0) rfl rfl, PcS_in hPc hK hDc hNw⟩ rfl rfl hl.1 rfl (lv_room (Nat.le_of_ble_eq_true rfl)) d_Pai_paintable_26 ⟨Nat.zero_le _, Nat.zero_le _⟩) hS (fun q _ h => hFc q h) hFc (fun r_68 u t H1 locs ht hvm hw hB hz1 hk1 hS => ?_)
        obtain ⟨hP1, hK1, hD1⟩ := hB
        rw [ht] at hP1
        obtain ⟨hw, hz_69⟩ := hw
        subst hw
        obtain ⟨hP, hD⟩ := va_joinP (wr := [(a0_near, .inl (cI, 16, .inl w0_near))]) (rx := (we_Pai_starved cI cJ cG cZ a0 a0_paint a0_near a0_free a0_uses r0_free v0_items v0_evenly v0_palette v0_share v0_bigger v0_bigNow w0_uses w0_free)) hP hD [0, 2, 3] [1] rfl rfl (by decide) (by decide) hk1 hFc hP1 hD1
        have hP : va_P (dC, dI) vwCl (wd_Pai_paintable cI cJ cG cZ a0 a0_paint a0_near a0_free a0_uses r0_free v0_items v0_evenly v0_palette v0_share v0_bigger v0_bigNow w0_near w0_uses w0_free) H1 := hP.part [1, 0, 2, 3] rfl
        have hD : va_D A (wd_Pai_paintable cI cJ cG cZ a0 a0_paint a0_near a0_free a0_uses r0_free v0_items v0_evenly v0_palette v0_share v0_bigger v0_bigNow w0_near w0_uses w0_free) := hD.part [1, 0, 2, 3] (by decide) rfl
        clear hP1 hK1 hD1 hk1 hPc hDc hFc ht hvm hz1
        generalize H1 = H at hP hS ⊢
        refine lv_if_eq (tgt := 34) hx hb d_Pai_paintable_29 (by decide) (fun c_70 => ?_) (fun c_70 => ?_)
        · have hm := ite_t c_70 hm
          exact jp_34 ls H locs hm (lv_sub hl [0, 1, 2] rfl) hP hD hS
        · have hm := ite_f c_70 hm
          refine lv_iconst (v := 0) hx hb d_Pai_paintable_32 (by decide) ?_
          cases hm
          exact W.zret (ty := .boolean) hx hb hr (bz_nar (by decide : bz 0)) (fun t ht hW => ⟨⟨_, (), rfl, ⟨rfl, (by decide : bz 0)⟩, by rw [ht]; exact hP, va_K.moved hW.alike hK, hD⟩, hS.F ht⟩) hS.2.2 d_Pai_paintable_33
    · have hm := ite_f c_1 hm
      refine lv_iload_n hx hb d_Pai_paintable_6 rfl (lv_at hl 2 rfl) ?_
      refine lv_if_ne (tgt := 14) hx hb d_Pai_paintable_7 (by decide) (fun c_71 => ?_) (fun c_71 => ?_)
      · have hm := ite_f c_71 hm
        refine lv_iconst (v := 0) hx hb d_Pai_paintable_14 (by decide) ?_
        cases hm
        exact W.zret (ty := .boolean) hx hb hr (bz_nar (by decide : bz 0)) (fun t ht hW => ⟨⟨_, (), rfl, ⟨rfl, (by decide : bz 0)⟩, by rw [ht]; exact hP, va_K.moved hW.alike hK, hD⟩, hS.F ht⟩) hS.2.2 d_Pai_paintable_15
      · have hm := ite_t c_71 hm
        refine lv_iconst (v := 1) hx hb d_Pai_paintable_10 (by decide) ?_
        refine lv_goto (tgt := 15) hx hb d_Pai_paintable_11 (by decide) ?_
        cases hm
        exact W.zret (ty := .boolean) hx hb hr (bz_nar (by decide : bz 1)) (fun t ht hW => ⟨⟨_, (), rfl, ⟨rfl, (by decide : bz 1)⟩, by rw [ht]; exact hP, va_K.moved hW.alike hK, hD⟩, hS.F ht⟩) hS.2.2 d_Pai_paintable_15
theorem c_Pai_paintable (l : Launch) (dC : Nat → ClassId) (dI : Nat → Nat → Nat) (cI cJ cG cZ : ClassId) (a0 a0_paint a0_near a0_free a0_uses : Nat) (r0_free : Nat → Nat) (sz : Nat) (F d : Nat) (v0_items : Int32) (v0_evenly : Int32) (v0_palette : Int32) (v0_share : Int32) (v0_bigger : Int32) (v0_bigNow : Int32) (w0_near : Nat → Int32) (w0_uses : Nat → Int32) (w0_free : Nat → Nat → Int32) (p1 : Int32) (p2 : Int32) (ret : Int32) (o_v0_bigNow : Int32) (o_w0_uses : Nat → Int32) (o_w0_free : Nat → Nat → Int32) (hm : m_Pai_paintable F d v0_items v0_evenly v0_palette v0_share v0_bigger v0_bigNow w0_near w0_uses w0_free p1 p2 = some (ret, o_v0_bigNow, o_w0_uses, o_w0_free)) : Met l y_Pai_paintable us_Pai_paintable (rm_Pai_paintable d) (PcS (dC, dI) (tyL cI cJ cG cZ) [.ref a0, .int p1, .int p2] sz (wd_Pai_paintable cI cJ cG cZ a0 a0_paint a0_near a0_free a0_uses r0_free v0_items v0_evenly v0_palette v0_share v0_bigger v0_bigNow w0_near w0_uses w0_free)) (va_Qi (fun (r : Int32) (_ : Unit) => ret = r ∧ bz r) (fun _ t => PoS (dC, dI) (tyL cI cJ cG cZ) (wd_Pai_paintable cI cJ cG cZ a0 a0_paint a0_near a0_free a0_uses r0_free v0_items v0_evenly v0_palette v0_share v0_bigger o_v0_bigNow w0_near o_w0_uses o_w0_free) (va_A (wd_Pai_paintable cI cJ cG cZ a0 a0_paint a0_near a0_free a0_uses r0_free v0_items v0_evenly v0_palette v0_share v0_bigger v0_bigNow w0_near w0_uses w0_free) sz) t) (va_A (wd_Pai_paintable cI cJ cG cZ a0 a0_paint a0_near a0_free a0_uses r0_free v0_items v0_evenly v0_palette v0_share v0_bigger v0_bigNow w0_near w0_uses w0_free) sz)) 0 0 (va_A (wd_Pai_paintable cI cJ cG cZ a0 a0_paint a0_near a0_free a0_uses r0_free v0_items v0_evenly v0_palette v0_share v0_bigger v0_bigNow w0_near w0_uses w0_free) sz) := cr_Pai_paintable l dC dI cI cJ cG cZ F d a0 a0_paint a0_near a0_free a0_uses r0_free sz v0_items v0_evenly v0_palette v0_share v0_bigger v0_bigNow w0_near w0_uses w0_free p1 p2 ret o_v0_bigNow o_w0_uses o_w0_free hm
theorem d_Pai_settle_0 : decode prog_5_method_8_code 0 = .ok (.aload_n 0, 1) := by decide +kernel
theorem d_Pai_settle_1 : decode prog_5_method_8_code 1 = .ok (.getfield 20, 3) := by decide +kernel
theorem d_Pai_settle_4 : decode prog_5_method_8_code 4 = .ok (.iconst 0, 1) := by decide +kernel
theorem d_Pai_settle_5 : decode prog_5_method_8_code 5 = .ok (.aaload, 1) := by decide +kernel
theorem d_Pai_settle_6 : decode prog_5_method_8_code 6 = .ok (.iload_n 1, 1) := by decide +kernel
theorem d_Pai_settle_7 : decode prog_5_method_8_code 7 = .ok (.iaload, 1) := by decide +kernel
theorem d_Pai_settle_8 : decode prog_5_method_8_code 8 = .ok (.aload_n 0, 1) := by decide +kernel
theorem d_Pai_settle_9 : decode prog_5_method_8_code 9 = .ok (.invokevirtual 90, 3) := by decide +kernel
theorem d_Pai_settle_12 : decode prog_5_method_8_code 12 = .ok (.iand, 1) := by decide +kernel
theorem d_Pai_settle_13 : decode prog_5_method_8_code 13 = .ok (.istore_n 3, 1) := by decide +kernel
theorem d_Pai_settle_14 : decode prog_5_method_8_code 14 = .ok (.iconst 0, 1) := by decide +kernel
theorem d_Pai_settle_15 : decode prog_5_method_8_code 15 = .ok (.istore 4, 2) := by decide +kernel
theorem d_Pai_settle_17 : decode prog_5_method_8_code 17 = .ok (.iload 4, 2) := by decide +kernel
theorem d_Pai_settle_19 : decode prog_5_method_8_code 19 = .ok (.aload_n 0, 1) := by decide +kernel
theorem d_Pai_settle_20 : decode prog_5_method_8_code 20 = .ok (.getfield 71, 3) := by decide +kernel
theorem d_Pai_settle_23 : decode prog_5_method_8_code 23 = .ok (.if_icmp .ge 90, 3) := by decide +kernel
theorem d_Pai_settle_26 : decode prog_5_method_8_code 26 = .ok (.iload_n 3, 1) := by decide +kernel
theorem d_Pai_settle_27 : decode prog_5_method_8_code 27 = .ok (.iload 4, 2) := by decide +kernel
theorem d_Pai_settle_29 : decode prog_5_method_8_code 29 = .ok (.ishr, 1) := by decide +kernel
theorem d_Pai_settle_30 : decode prog_5_method_8_code 30 = .ok (.iconst 1, 1) := by decide +kernel
theorem d_Pai_settle_31 : decode prog_5_method_8_code 31 = .ok (.iand, 1) := by decide +kernel
theorem d_Pai_settle_32 : decode prog_5_method_8_code 32 = .ok (.ifCond .eq 75, 3) := by decide +kernel
theorem d_Pai_settle_35 : decode prog_5_method_8_code 35 = .ok (.aload_n 0, 1) := by decide +kernel
theorem d_Pai_settle_36 : decode prog_5_method_8_code 36 = .ok (.iconst 0, 1) := by decide +kernel
theorem d_Pai_settle_37 : decode prog_5_method_8_code 37 = .ok (.iload_n 2, 1) := by decide +kernel
theorem d_Pai_settle_38 : decode prog_5_method_8_code 38 = .ok (.iload_n 3, 1) := by decide +kernel
theorem d_Pai_settle_39 : decode prog_5_method_8_code 39 = .ok (.iload 4, 2) := by decide +kernel
theorem d_Pai_settle_41 : decode prog_5_method_8_code 41 = .ok (.invokevirtual 94, 3) := by decide +kernel
theorem d_Pai_settle_44 : decode prog_5_method_8_code 44 = .ok (.ifCond .eq 6, 3) := by decide +kernel
theorem d_Pai_settle_47 : decode prog_5_method_8_code 47 = .ok (.goto 60, 3) := by decide +kernel
theorem d_Pai_settle_50 : decode prog_5_method_8_code 50 = .ok (.aload_n 0, 1) := by decide +kernel
theorem d_Pai_settle_51 : decode prog_5_method_8_code 51 = .ok (.iload 4, 2) := by decide +kernel
theorem d_Pai_settle_53 : decode prog_5_method_8_code 53 = .ok (.invokevirtual 98, 3) := by decide +kernel
theorem d_Pai_settle_56 : decode prog_5_method_8_code 56 = .ok (.aload_n 0, 1) := by decide +kernel
theorem d_Pai_settle_57 : decode prog_5_method_8_code 57 = .ok (.iconst 0, 1) := by decide +kernel
theorem d_Pai_settle_58 : decode prog_5_method_8_code 58 = .ok (.iload_n 2, 1) := by decide +kernel
theorem d_Pai_settle_59 : decode prog_5_method_8_code 59 = .ok (.iload_n 1, 1) := by decide +kernel
theorem d_Pai_settle_60 : decode prog_5_method_8_code 60 = .ok (.iload 4, 2) := by decide +kernel
theorem d_Pai_settle_62 : decode prog_5_method_8_code 62 = .ok (.invokevirtual 101, 3) := by decide +kernel
theorem d_Pai_settle_65 : decode prog_5_method_8_code 65 = .ok (.ifCond .eq 36, 3) := by decide +kernel
theorem d_Pai_settle_68 : decode prog_5_method_8_code 68 = .ok (.aload_n 0, 1) := by decide +kernel
theorem d_Pai_settle_69 : decode prog_5_method_8_code 69 = .ok (.iconst 1, 1) := by decide +kernel
theorem d_Pai_settle_70 : decode prog_5_method_8_code 70 = .ok (.iload_n 2, 1) := by decide +kernel
theorem d_Pai_settle_71 : decode prog_5_method_8_code 71 = .ok (.invokevirtual 83, 3) := by decide +kernel
theorem d_Pai_settle_74 : decode prog_5_method_8_code 74 = .ok (.ifCond .eq 27, 3) := by decide +kernel
theorem d_Pai_settle_77 : decode prog_5_method_8_code 77 = .ok (.aload_n 0, 1) := by decide +kernel
theorem d_Pai_settle_78 : decode prog_5_method_8_code 78 = .ok (.getfield 20, 3) := by decide +kernel
theorem d_Pai_settle_81 : decode prog_5_method_8_code 81 = .ok (.iconst 1, 1) := by decide +kernel
theorem d_Pai_settle_82 : decode prog_5_method_8_code 82 = .ok (.aaload, 1) := by decide +kernel
theorem d_Pai_settle_83 : decode prog_5_method_8_code 83 = .ok (.iconst 0, 1) := by decide +kernel
theorem d_Pai_settle_84 : decode prog_5_method_8_code 84 = .ok (.aload_n 0, 1) := by decide +kernel
theorem d_Pai_settle_85 : decode prog_5_method_8_code 85 = .ok (.getfield 20, 3) := by decide +kernel
theorem d_Pai_settle_88 : decode prog_5_method_8_code 88 = .ok (.iconst 0, 1) := by decide +kernel
theorem d_Pai_settle_89 : decode prog_5_method_8_code 89 = .ok (.aaload, 1) := by decide +kernel
theorem d_Pai_settle_90 : decode prog_5_method_8_code 90 = .ok (.iconst 0, 1) := by decide +kernel
theorem d_Pai_settle_91 : decode prog_5_method_8_code 91 = .ok (.aload_n 0, 1) := by decide +kernel
theorem d_Pai_settle_92 : decode prog_5_method_8_code 92 = .ok (.getfield 58, 3) := by decide +kernel
theorem d_Pai_settle_95 : decode prog_5_method_8_code 95 = .ok (.invokestatic 37, 3) := by decide +kernel
theorem d_Pai_settle_98 : decode prog_5_method_8_code 98 = .ok (.iload 4, 2) := by decide +kernel
theorem d_Pai_settle_100 : decode prog_5_method_8_code 100 = .ok (.ireturn, 1) := by decide +kernel
theorem d_Pai_settle_101 : decode prog_5_method_8_code 101 = .ok (.aload_n 0, 1) := by decide +kernel
theorem d_Pai_settle_102 : decode prog_5_method_8_code 102 = .ok (.iload 4, 2) := by decide +kernel
theorem d_Pai_settle_104 : decode prog_5_method_8_code 104 = .ok (.invokevirtual 104, 3) := by decide +kernel
theorem d_Pai_settle_107 : decode prog_5_method_8_code 107 = .ok (.iinc 4 1, 3) := by decide +kernel
theorem d_Pai_settle_110 : decode prog_5_method_8_code 110 = .ok (.goto (-93), 3) := by decide +kernel
theorem d_Pai_settle_113 : decode prog_5_method_8_code 113 = .ok (.iconst (-1), 1) := by decide +kernel
theorem d_Pai_settle_114 : decode prog_5_method_8_code 114 = .ok (.ireturn, 1) := by decide +kernel
abbrev wd_Pai_settle (cI cJ cG cZ : ClassId) (a0 a0_paint a0_near a0_free a0_uses : Nat) (r0_free : Nat → Nat) (v0_items : Int32) (v0_evenly : Int32) (v0_palette : Int32) (v0_share : Int32) (v0_bigger : Int32) (v0_bigNow : Int32) (w0_near : Nat → Int32) (w0_uses : Nat → Int32) (w0_free : Nat → Nat → Int32) : va_W := [(a0, .inr (2, [.ref a0_paint, .ref a0_near, .ref a0_free, .ref a0_uses, .int v0_items, .int v0_evenly, .int v0_palette, .int v0_share, .int v0_bigger, .int v0_bigNow])), (a0_near, .inl (cI, 16, .inl w0_near)), (a0_free, .inl (cG, 18, .inr (.inr (.inr (.inr (gO r0_free 18)))))), (a0_uses, .inl (cI, 12, .inl w0_uses))] ++ rowsW r0_free cI 16 18 w0_free
abbrev we_Pai_settle (cI cJ cG cZ : ClassId) (a0 a0_paint a0_near a0_free a0_uses : Nat) (r0_free : Nat → Nat) (v0_items : Int32) (v0_evenly : Int32) (v0_palette : Int32) (v0_share : Int32) (v0_bigger : Int32) (v0_bigNow : Int32) (w0_near : Nat → Int32) (w0_uses : Nat → Int32) (w0_free : Nat → Nat → Int32) : va_W := [(a0, .inr (2, [.ref a0_paint, .ref a0_near, .ref a0_free, .ref a0_uses, .int v0_items, .int v0_evenly, .int v0_palette, .int v0_share, .int v0_bigger, .int v0_bigNow])), (a0_near, .inl (cI, 16, .inl w0_near)), (a0_free, .inl (cG, 18, .inr (.inr (.inr (.inr (gO r0_free 18)))))), (a0_uses, .inl (cI, 12, .inl w0_uses))]
abbrev us_Pai_settle : List Cond := .code y_Pai_settle prog_5_method_8_code 5 (some .int) :: gtbl
abbrev rm_Pai_settle : Room := { frames := 21, cells := 0, slots := 0, locals := 601 }
def m_Pai_settle (F : Nat) (v0_items : Int32) (v0_evenly : Int32) (v0_palette : Int32) (v0_share : Int32) (v0_bigger : Int32) (v0_bigNow : Int32) (w0_near : Nat → Int32) (w0_uses : Nat → Int32) (w0_free : Nat → Nat → Int32) (p1 : Int32) (p2 : Int32) : Option (Int32 × Int32 × (Nat → Int32) × (Nat → Nat → Int32)) :=
  gC (inb 0 18) (
  gC (inb p1 16) (
  gM (m_Pai_openColours F v0_items v0_evenly v0_palette v0_share v0_bigger v0_bigNow w0_uses) (fun q_4 =>
  gB ((w0_free ((0 : Int32).toNatClampNeg) p1.toNatClampNeg) &&& q_4) (fun x3_7 =>
  gL (fun (k_17 : (Int32 × Int32 × (Nat → Int32) × (Nat → Nat → Int32)) → Option (Int32 × Int32 × (Nat → Int32) × (Nat → Nat → Int32))) (z_17 : Int32 × Int32 × (Nat → Int32) × (Nat → Nat → Int32)) => match z_17 with
  | (x4_8, v0_bigNow_9, w0_uses_10, w0_free_11) =>
  if v0_palette ≤ x4_8 then (
    some ((-1), v0_bigNow_9, w0_uses_10, w0_free_11)
  ) else (
    if ((x3_7 >>> (x4_8 &&& 31)) &&& 1) = 0 then (
      gB (x4_8 + 1) (fun x4_14 =>
      k_17 (x4_14, v0_bigNow_9, w0_uses_10, w0_free_11))
    ) else (
      gM (m_Pai_likeEarlier F v0_items v0_evenly v0_palette v0_share v0_bigger v0_bigNow_9 w0_uses_10 w0_free_11 (0 : Int32) p2 x3_7 x4_8) (fun q_15 =>
      if q_15 = 0 then (
        gM (m_Pai_use F v0_items v0_evenly v0_palette v0_share v0_bigger v0_bigNow_9 w0_uses_10 x4_8) (fun (z_23 : Int32 × (Nat → Int32)) => match z_23 with
        | (v0_bigNow_20, w0_uses_21) =>
        gM (m_Pai_spread F v0_items v0_evenly v0_palette v0_share v0_bigger v0_bigNow_20 w0_near w0_free_11 (0 : Int32) p2 p1 x4_8) (fun (z_27 : Int32 × (Nat → Nat → Int32)) => match z_27 with
        | (q_24, w0_free_25) =>
        gB (α := Int32 → (Nat → Int32) → (Nat → Nat → Int32) → Option (Int32 × Int32 × (Nat → Int32) × (Nat → Nat → Int32))) (fun v0_bigNow_30 w0_uses_31 w0_free_32 =>
          gM (m_Pai_unuse F v0_items v0_evenly v0_palette v0_share v0_bigger v0_bigNow_30 w0_uses_31 x4_8) (fun (z_36 : Int32 × (Nat → Int32)) => match z_36 with
          | (v0_bigNow_33, w0_uses_34) =>
          gB (x4_8 + 1) (fun x4_37 =>
          k_17 (x4_37, v0_bigNow_33, w0_uses_34, w0_free_32)))
        ) (fun J_101 =>
        if q_24 = 0 then (
          J_101 v0_bigNow_20 w0_uses_21 w0_free_25
        ) else (
          gM (m_Pai_paintable F 18 v0_items v0_evenly v0_palette v0_share v0_bigger v0_bigNow_20 w0_near w0_uses_21 w0_free_25 (1 : Int32) p2) (fun (z_44 : Int32 × Int32 × (Nat → Int32) × (Nat → Nat → Int32)) => match z_44 with
          | (q_39, v0_bigNow_40, w0_uses_41, w0_free_42) =>
          if q_39 = 0 then (
            J_101 v0_bigNow_40 w0_uses_41 w0_free_42
          ) else (
            gC (inb 1 18) (
            gC (inb 0 18) (
            gC (cpyB (0 : Int32) (0 : Int32) v0_items 16 16) (
            some (x4_8, v0_bigNow_40, w0_uses_41, gF w0_free_42 ((0 : Int32).toNatClampNeg) (va_cpy (w0_free_42 ((1 : Int32).toNatClampNeg)) (w0_free_42 ((0 : Int32).toNatClampNeg)) (0 : Int32).toNatClampNeg (0 : Int32).toNatClampNeg v0_items.toNatClampNeg)))))
          ))
        )
        )))
      ) else (
        gB (x4_8 + 1) (fun x4_53 =>
        k_17 (x4_53, v0_bigNow_9, w0_uses_10, w0_free_11))
      ))
    )
  )
  ) F (0, v0_bigNow, w0_uses, w0_free)))))
set_option maxHeartbeats 4000000 in
set_option maxRecDepth 100000 in
theorem c_Pai_settle (l : Launch) (dC : Nat → ClassId) (dI : Nat → Nat → Nat) (cI cJ cG cZ : ClassId) (a0 a0_paint a0_near a0_free a0_uses : Nat) (r0_free : Nat → Nat) (sz : Nat) (F : Nat) (v0_items : Int32) (v0_evenly : Int32) (v0_palette : Int32) (v0_share : Int32) (v0_bigger : Int32) (v0_bigNow : Int32) (w0_near : Nat → Int32) (w0_uses : Nat → Int32) (w0_free : Nat → Nat → Int32) (p1 : Int32) (p2 : Int32) (ret : Int32) (o_v0_bigNow : Int32) (o_w0_uses : Nat → Int32) (o_w0_free : Nat → Nat → Int32) (hm : m_Pai_settle F v0_items v0_evenly v0_palette v0_share v0_bigger v0_bigNow w0_near w0_uses w0_free p1 p2 = some (ret, o_v0_bigNow, o_w0_uses, o_w0_free)) : Met l y_Pai_settle us_Pai_settle rm_Pai_settle (PcS (dC, dI) (tyL cI cJ cG cZ) [.ref a0, .int p1, .int p2] sz (wd_Pai_settle cI cJ cG cZ a0 a0_paint a0_near a0_free a0_uses r0_free v0_items v0_evenly v0_palette v0_share v0_bigger v0_bigNow w0_near w0_uses w0_free)) (va_Qi (fun (r : Int32) (_ : Unit) => ret = r) (fun _ t => PoS (dC, dI) (tyL cI cJ cG cZ) (wd_Pai_settle cI cJ cG cZ a0 a0_paint a0_near a0_free a0_uses r0_free v0_items v0_evenly v0_palette v0_share v0_bigger o_v0_bigNow w0_near o_w0_uses o_w0_free) (va_A (wd_Pai_settle cI cJ cG cZ a0 a0_paint a0_near a0_free a0_uses r0_free v0_items v0_evenly v0_palette v0_share v0_bigger v0_bigNow w0_near w0_uses w0_free) sz) t) (va_A (wd_Pai_settle cI cJ cG cZ a0 a0_paint a0_near a0_free a0_uses r0_free v0_items v0_evenly v0_palette v0_share v0_bigger v0_bigNow w0_near w0_uses w0_free) sz)) 0 0 (va_A (wd_Pai_settle cI cJ cG cZ a0 a0_paint a0_near a0_free a0_uses r0_free v0_items v0_evenly v0_palette v0_share v0_bigger v0_bigNow w0_near w0_uses w0_free) sz) := by
  refine Met.ofW (cc := prog_5_method_8_code) (maxL := 5) (ret := (some .int)) (by decide) rfl ?_
  intro p e s m args below meth c s₁ B hml hv
  obtain ⟨rfl, hsz, hP, hK, hD0, hNw⟩ := hv
  have hx := B.exec
  have hb := B.bytes
  have hr := B.returns
  have htt : ∀ w ∈ gtbl, w.before _ s = true := fun w h => atoms_spec (ws := us_Pai_settle) B.pre w (List.mem_cons_of_mem _ h)
  have hown : s.vm.findClass R_Pai = some m.cls := findClass_of_methodNamed B.named
  have hlocks := B.notSynchronized
  subst hsz
  have hD := hD0.self (sz := s.heap.size)
  generalize hAe : va_A (wd_Pai_settle cI cJ cG cZ a0 a0_paint a0_near a0_free a0_uses r0_free v0_items v0_evenly v0_palette v0_share v0_bigger v0_bigNow w0_near w0_uses w0_free) s.heap.size = A at hD ⊢
  have hA : ∀ q : Nat, s.heap.size ≤ q → A q := fun q h => by rw [← hAe]; exact Or.inr h
  clear hAe hD0
  have hS : va_S A s.heap s.heap [] := va_S.rf
  have hl := lv_entry ([.ref a0, .int p1, .int p2]) (n := 5) (Nat.le_of_ble_eq_true rfl)
  rw [lg_entry_eq]
  generalize (lg_sl ([.ref a0, .int p1, .int p2]) ++ List.replicate (5 - (lg_sl ([.ref a0, .int p1, .int p2])).length) Slot.unset).toArray = ls at hl ⊢
  have hl : lv_has ls 5 [(0, .ref a0), (1, .int p1), (2, .int p2)] := hl
  generalize hH : s.heap = H at hP ⊢
  have hS : va_S A s.heap H [] := hH ▸ hS
  generalize hLo : ([] : List Loc) = locs at hS ⊢
  clear hH hLo
  unfold m_Pai_settle at hm
  refine lv_aload_n hx hb d_Pai_settle_0 rfl (lv_at hl 0 rfl) ?_
  refine va_get (D := (dC, dI)) (ci := 2) (v := .ref a0_free) (C := R_Pai) (T := T_Pai) (N := 10) hx hb htt hin_Pai hown hK hP 0 rfl rfl 2 (by decide) (htt _ kt_84) (fun _ h9 => h9) rfl d_Pai_settle_1 ?_
  refine lv_iconst (v := 0) hx hb d_Pai_settle_4 (by decide) ?_
  obtain ⟨hi_1, hm⟩ := gC_e hm
  have hj_2 := inb_lt hi_1
  refine gx_ald hx hb hK hP 2 2 rfl rfl (inb_vp hi_1) d_Pai_settle_5 ?_
  refine lv_iload_n hx hb d_Pai_settle_6 rfl (lv_at hl 1 rfl) ?_
  obtain ⟨hi_3, hm⟩ := gC_e hm
  refine va_iald hx hb hK hP (4 + (0 : Int32).toNatClampNeg) 0 (rows_get rfl hj_2) rfl (inb_vp hi_3) d_Pai_settle_7 ?_
  refine lv_aload_n hx hb d_Pai_settle_8 rfl (lv_at hl 0 rfl) ?_
  obtain ⟨q_4, hc_5, hm⟩ := gM_e hm
  have hPc : va_P (dC, dI) vwCl (wd_Pai_openColours cI cJ cG cZ a0 a0_paint a0_near a0_free a0_uses v0_items v0_evenly v0_palette v0_share v0_bigger v0_bigNow w0_uses) H := hP.sub [0, 3] rfl
  have hDc : va_D A (wd_Pai_openColours cI cJ cG cZ a0 a0_paint a0_near a0_free a0_uses v0_items v0_evenly v0_palette v0_share v0_bigger v0_bigNow w0_uses) := hD.sub [0, 3] (by decide) rfl
  have hFc : ∀ q, va_A (wd_Pai_openColours cI cJ cG cZ a0 a0_paint a0_near a0_free a0_uses v0_items v0_evenly v0_palette v0_share v0_bigger v0_bigNow w0_uses) H.size q → A q := va_free hD hS hA [0, 3] rfl
  refine va_calli (va_runV (As := []) (rest := [.int (w0_free ((0 : Int32).toNatClampNeg) p1.toNatClampNeg)]) ⟨hx, hb, hml, hown, htt⟩ (c_Pai_openColours l dC dI cI cJ cG cZ a0 a0_paint a0_near a0_free a0_uses H.size F v0_items v0_evenly v0_palette v0_share v0_bigger v0_bigNow w0_uses q_4 hc_5) (cwV 0 htt (gdV kt_328 kt_330 kp_4 kt_3 kt_331) rfl rfl rfl (by decide +kernel) ⟨(Nat.le_of_ble_eq_true rfl), (Nat.le_of_ble_eq_true rfl)⟩) ⟨PcS_blind, va_recv hK hPc (ci := 2) (q0 := 0) rfl rfl, PcS_in hPc hK hDc hNw⟩ rfl rfl hl.1 rfl (lv_room (Nat.le_of_ble_eq_true rfl)) d_Pai_settle_9 ⟨Nat.zero_le _, Nat.zero_le _⟩) hS (fun q _ h => hFc q h) hFc (fun r_6 u t H1 locs ht hvm hw hB hz1 hk1 hS => ?_)
  obtain ⟨hP1, hK1, hD1⟩ := hB
  rw [ht] at hP1
  subst hw
  obtain ⟨hP, hD⟩ := va_joinQ (wr := [(a0_near, .inl (cI, 16, .inl w0_near)), (a0_free, .inl (cG, 18, .inr (.inr (.inr (.inr (gO r0_free 18))))))]) (w1 := (wd_Pai_openColours cI cJ cG cZ a0 a0_paint a0_near a0_free a0_uses v0_items v0_evenly v0_palette v0_share v0_bigger v0_bigNow w0_uses)) hP hD [0, 3] [1, 2] rfl rfl (by decide) (by decide) hk1 hFc hP1 hD1
  have hP : va_P (dC, dI) vwCl (wd_Pai_settle cI cJ cG cZ a0 a0_paint a0_near a0_free a0_uses r0_free v0_items v0_evenly v0_palette v0_share v0_bigger v0_bigNow w0_near w0_uses w0_free) H1 := hP.part [2, 0, 1, 3] rfl
  have hD : va_D A (wd_Pai_settle cI cJ cG cZ a0 a0_paint a0_near a0_free a0_uses r0_free v0_items v0_evenly v0_palette v0_share v0_bigger v0_bigNow w0_near w0_uses w0_free) := hD.part [2, 0, 1, 3] (by decide) rfl
  clear hP1 hK1 hD1 hk1 hPc hDc hFc ht hvm hz1
  generalize H1 = H at hP hS ⊢
  refine lv_iand hx hb d_Pai_settle_12 ?_
  refine lv_topi (fun x3_7 ex3_7 => ?_)
  have hm := gB_at ex3_7 hm
  refine lv_istore_n (lv' := [(3, .int x3_7), (0, .ref a0), (1, .int p1), (2, .int p2)]) hx hb d_Pai_settle_13 rfl hl (by decide) rfl (fun ls hl => ?_)
  refine lv_iconst (v := 0) hx hb d_Pai_settle_14 (by decide) ?_
  refine lv_istore (lv' := [(4, .int 0), (3, .int x3_7), (0, .ref a0), (1, .int p1), (2, .int p2)]) hx hb d_Pai_settle_15 hl (by decide) rfl (fun ls hl => ?_)
  refine gL_e (P := (fun (z_17 : Int32 × Int32 × (Nat → Int32) × (Nat → Nat → Int32)) => ∀ (x4_8 : Int32), ∀ (v0_bigNow_9 : Int32), ∀ (w0_uses_10 : Nat → Int32), ∀ (w0_free_11 : Nat → Nat → Int32), z_17 = (x4_8, v0_bigNow_9, w0_uses_10, w0_free_11) → ∀ (ls : Array Slot) (H : Heap) (locs : List Loc), lv_has ls 5 [(0, .ref a0), (1, .int p1), (2, .int p2), (3, .int x3_7), (4, .int x4_8)] → va_P (dC, dI) vwCl (wd_Pai_settle cI cJ cG cZ a0 a0_paint a0_near a0_free a0_uses r0_free v0_items v0_evenly v0_palette v0_share v0_bigger v0_bigNow_9 w0_near w0_uses_10 w0_free_11) H → va_D A (wd_Pai_settle cI cJ cG cZ a0 a0_paint a0_near a0_free a0_uses r0_free v0_items v0_evenly v0_palette v0_share v0_bigger v0_bigNow_9 w0_near w0_uses_10 w0_free_11) → va_S A s.heap H locs → W p l e (headSpec us_Pai_settle rm_Pai_settle).room s m ([.ref a0, .int p1, .int p2] : List Value).toArray below meth c H locs 0 0 (MQ below (va_Qi (fun (r : Int32) (_ : Unit) => ret = r) (fun _ t => PoS (dC, dI) (tyL cI cJ cG cZ) (wd_Pai_settle cI cJ cG cZ a0 a0_paint a0_near a0_free a0_uses r0_free v0_items v0_evenly v0_palette v0_share v0_bigger o_v0_bigNow w0_near o_w0_uses o_w0_free) A t) A) ([.ref a0, .int p1, .int p2] : List Value).toArray s 0 0 A) (F0 m 17 ls []))) hm (fun k_17 z_17 ih_17 hm => ?_) _ _ _ _ rfl ls H locs (lv_sub hl [2, 3, 4, 1, 0] rfl) hP hD hS
  intro x4_8 v0_bigNow_9 w0_uses_10 w0_free_11 hz ls H locs hl hP hD hS
  subst hz
  dsimp only at hm
  refine lv_iload hx hb d_Pai_settle_17 (lv_at hl 4 rfl) ?_
  refine lv_aload_n hx hb d_Pai_settle_19 rfl (lv_at hl 0 rfl) ?_
  refine va_get (D := (dC, dI)) (ci := 2) (v := .int v0_palette) (C := R_Pai) (T := T_Pai) (N := 10) hx hb htt hin_Pai hown hK hP 0 rfl rfl 6 (by decide) (htt _ kt_88) (fun _ h9 => h9) rfl d_Pai_settle_20 ?_
  refine lv_icmp_ge (tgt := 113) hx hb d_Pai_settle_23 (by decide) (fun c_12 => ?_) (fun c_12 => ?_)
  · have hm := ite_t c_12 hm
    refine lv_iconst (v := (-1)) hx hb d_Pai_settle_113 (by decide) ?_
    cases hm
    exact W.iret hx hb hr (fun t ht hW => ⟨⟨_, (), rfl, rfl, by rw [ht]; exact hP, va_K.moved hW.alike hK, hD⟩, hS.F ht⟩) hS.2.2 d_Pai_settle_114
  · have hm := ite_f c_12 hm
    refine lv_iload_n hx hb d_Pai_settle_26 rfl (lv_at hl 3 rfl) ?_
    refine lv_iload hx hb d_Pai_settle_27 (lv_at hl 4 rfl) ?_
    refine lv_ishr hx hb d_Pai_settle_29 ?_
    refine lv_iconst (v := 1) hx hb d_Pai_settle_30 (by decide) ?_
    refine lv_iand hx hb d_Pai_settle_31 ?_
    refine lv_if_eq (tgt := 107) hx hb d_Pai_settle_32 (by decide) (fun c_13 => ?_) (fun c_13 => ?_)
    · have hm := ite_t c_13 hm
      obtain ⟨x4_14, ex4_14⟩ : ∃ y : Int32, y = x4_8 + 1 := ⟨_, rfl⟩
      have hm := gB_at ex4_14 hm
      refine lv_iinc (v := x4_14) (lv' := [(4, .int x4_14), (0, .ref a0), (1, .int p1), (2, .int p2), (3, .int x3_7)]) hx hb d_Pai_settle_107 hl (k := 4) rfl (by rw [ex4_14]; rfl) (by decide) rfl (fun ls hl => ?_)
      refine lv_goto (tgt := 17) hx hb d_Pai_settle_110 (by decide) ?_
      exact ih_17 _ hm _ _ _ _ rfl ls H locs (lv_sub hl [1, 2, 3, 4, 0] rfl) hP hD hS
    · have hm := ite_f c_13 hm
      refine lv_aload_n hx hb d_Pai_settle_35 rfl (lv_at hl 0 rfl) ?_
      refine lv_iconst (v := 0) hx hb d_Pai_settle_36 (by decide) ?_
      refine lv_iload_n hx hb d_Pai_settle_37 rfl (lv_at hl 2 rfl) ?_
      refine lv_iload_n hx hb d_Pai_settle_38 rfl (lv_at hl 3 rfl) ?_
      refine lv_iload hx hb d_Pai_settle_39 (lv_at hl 4 rfl) ?_
      obtain ⟨q_15, hc_16, hm⟩ := gM_e hm
      have hPc : va_P (dC, dI) vwCl (wd_Pai_likeEarlier cI cJ cG cZ a0 a0_paint a0_near a0_free a0_uses r0_free v0_items v0_evenly v0_palette v0_share v0_bigger v0_bigNow_9 w0_uses_10 w0_free_11) H := hP.part [0, 2, 3] rfl
      have hDc : va_D A (wd_Pai_likeEarlier cI cJ cG cZ a0 a0_paint a0_near a0_free a0_uses r0_free v0_items v0_evenly v0_palette v0_share v0_bigger v0_bigNow_9 w0_uses_10 w0_free_11) := hD.part [0, 2, 3] (by decide) rfl
      have hFc : ∀ q, va_A (wd_Pai_likeEarlier cI cJ cG cZ a0 a0_paint a0_near a0_free a0_uses r0_free v0_items v0_evenly v0_palette v0_share v0_bigger v0_bigNow_9 w0_uses_10 w0_free_11) H.size q → A q := va_freeP hD hS hA [0, 2, 3] rfl
      refine va_calli (va_runV (As := [.int 0, .int p2, .int x3_7, .int x4_8]) (rest := []) ⟨hx, hb, hml, hown, htt⟩ (c_Pai_likeEarlier l dC dI cI cJ cG cZ a0 a0_paint a0_near a0_free a0_uses r0_free H.size F v0_items v0_evenly v0_palette v0_share v0_bigger v0_bigNow_9 w0_uses_10 w0_free_11 (0 : Int32) p2 x3_7 x4_8 q_15 hc_16) (cwV 4 htt (gdV kt_337 kt_339 kp_6 kt_3 kt_340) rfl rfl rfl (by decide +kernel) ⟨(Nat.le_of_ble_eq_true rfl), (Nat.le_of_ble_eq_true rfl)⟩) ⟨PcS_blind, va_recv hK hPc (ci := 2) (q0 := 0) rfl rfl, PcS_in hPc hK hDc hNw⟩ rfl rfl hl.1 rfl (lv_room (Nat.le_of_ble_eq_true rfl)) d_Pai_settle_41 ⟨Nat.zero_le _, Nat.zero_le _⟩) hS (fun q _ h => hFc q h) hFc (fun r_17 u t H1 locs ht hvm hw hB hz1 hk1 hS => ?_)
      obtain ⟨hP1, hK1, hD1⟩ := hB
      rw [ht] at hP1
      obtain ⟨hw, hz_18⟩ := hw
      subst hw
      obtain ⟨hP, hD⟩ := va_joinP (wr := [(a0_near, .inl (cI, 16, .inl w0_near))]) (rx := (we_Pai_likeEarlier cI cJ cG cZ a0 a0_paint a0_near a0_free a0_uses r0_free v0_items v0_evenly v0_palette v0_share v0_bigger v0_bigNow_9 w0_uses_10 w0_free_11)) hP hD [0, 2, 3] [1] rfl rfl (by decide) (by decide) hk1 hFc hP1 hD1
      have hP : va_P (dC, dI) vwCl (wd_Pai_settle cI cJ cG cZ a0 a0_paint a0_near a0_free a0_uses r0_free v0_items v0_evenly v0_palette v0_share v0_bigger v0_bigNow_9 w0_near w0_uses_10 w0_free_11) H1 := hP.part [1, 0, 2, 3] rfl
      have hD : va_D A (wd_Pai_settle cI cJ cG cZ a0 a0_paint a0_near a0_free a0_uses r0_free v0_items v0_evenly v0_palette v0_share v0_bigger v0_bigNow_9 w0_near w0_uses_10 w0_free_11) := hD.part [1, 0, 2, 3] (by decide) rfl
      clear hP1 hK1 hD1 hk1 hPc hDc hFc ht hvm hz1
      generalize H1 = H at hP hS ⊢
      refine lv_if_eq (tgt := 50) hx hb d_Pai_settle_44 (by decide) (fun c_19 => ?_) (fun c_19 => ?_)
      · have hm := ite_t c_19 hm
        refine lv_aload_n hx hb d_Pai_settle_50 rfl (lv_at hl 0 rfl) ?_
        refine lv_iload hx hb d_Pai_settle_51 (lv_at hl 4 rfl) ?_
        obtain ⟨⟨v0_bigNow_20, w0_uses_21⟩, hc_22, hm⟩ := gM_e hm
        dsimp only at hm
        have hPc : va_P (dC, dI) vwCl (wd_Pai_use cI cJ cG cZ a0 a0_paint a0_near a0_free a0_uses v0_items v0_evenly v0_palette v0_share v0_bigger v0_bigNow_9 w0_uses_10) H := hP.sub [0, 3] rfl
        have hDc : va_D A (wd_Pai_use cI cJ cG cZ a0 a0_paint a0_near a0_free a0_uses v0_items v0_evenly v0_palette v0_share v0_bigger v0_bigNow_9 w0_uses_10) := hD.sub [0, 3] (by decide) rfl
        have hFc : ∀ q, va_A (wd_Pai_use cI cJ cG cZ a0 a0_paint a0_near a0_free a0_uses v0_items v0_evenly v0_palette v0_share v0_bigger v0_bigNow_9 w0_uses_10) H.size q → A q := va_free hD hS hA [0, 3] rfl
        refine va_callv (va_runV (As := [.int x4_8]) (rest := []) ⟨hx, hb, hml, hown, htt⟩ (c_Pai_use l dC dI cI cJ cG cZ a0 a0_paint a0_near a0_free a0_uses H.size F v0_items v0_evenly v0_palette v0_share v0_bigger v0_bigNow_9 w0_uses_10 x4_8 v0_bigNow_20 w0_uses_21 hc_22) (cwV 1 htt (gdV kt_345 kt_347 kp_8 kt_3 kt_348) rfl rfl rfl (by decide +kernel) ⟨(Nat.le_of_ble_eq_true rfl), (Nat.le_of_ble_eq_true rfl)⟩) ⟨PcS_blind, va_recv hK hPc (ci := 2) (q0 := 0) rfl rfl, PcS_in hPc hK hDc hNw⟩ rfl rfl hl.1 rfl (lv_room (Nat.le_of_ble_eq_true rfl)) d_Pai_settle_53 ⟨Nat.zero_le _, Nat.zero_le _⟩) hS (fun q _ h => hFc q h) hFc (fun u t H1 locs ht hvm hw hB hz1 hk1 hS => ?_)
        obtain ⟨hP1, hK1, hD1⟩ := hB
        rw [ht] at hP1
        obtain ⟨hP, hD⟩ := va_joinQ (wr := [(a0_near, .inl (cI, 16, .inl w0_near)), (a0_free, .inl (cG, 18, .inr (.inr (.inr (.inr (gO r0_free 18))))))]) (w1 := (wd_Pai_use cI cJ cG cZ a0 a0_paint a0_near a0_free a0_uses v0_items v0_evenly v0_palette v0_share v0_bigger v0_bigNow_20 w0_uses_21)) hP hD [0, 3] [1, 2] rfl rfl (by decide) (by decide) hk1 hFc hP1 hD1
        have hP : va_P (dC, dI) vwCl (wd_Pai_settle cI cJ cG cZ a0 a0_paint a0_near a0_free a0_uses r0_free v0_items v0_evenly v0_palette v0_share v0_bigger v0_bigNow_20 w0_near w0_uses_21 w0_free_11) H1 := hP.part [2, 0, 1, 3] rfl
        have hD : va_D A (wd_Pai_settle cI cJ cG cZ a0 a0_paint a0_near a0_free a0_uses r0_free v0_items v0_evenly v0_palette v0_share v0_bigger v0_bigNow_20 w0_near w0_uses_21 w0_free_11) := hD.part [2, 0, 1, 3] (by decide) rfl
        clear hP1 hK1 hD1 hk1 hPc hDc hFc ht hvm hz1
        generalize H1 = H at hP hS ⊢
        refine lv_aload_n hx hb d_Pai_settle_56 rfl (lv_at hl 0 rfl) ?_
        refine lv_iconst (v := 0) hx hb d_Pai_settle_57 (by decide) ?_
        refine lv_iload_n hx hb d_Pai_settle_58 rfl (lv_at hl 2 rfl) ?_
        refine lv_iload_n hx hb d_Pai_settle_59 rfl (lv_at hl 1 rfl) ?_
        refine lv_iload hx hb d_Pai_settle_60 (lv_at hl 4 rfl) ?_
        obtain ⟨⟨q_24, w0_free_25⟩, hc_26, hm⟩ := gM_e hm
        dsimp only at hm
        have hPc : va_P (dC, dI) vwCl (wd_Pai_spread cI cJ cG cZ a0 a0_paint a0_near a0_free a0_uses r0_free v0_items v0_evenly v0_palette v0_share v0_bigger v0_bigNow_20 w0_near w0_free_11) H := hP.part [0, 1, 2] rfl
        have hDc : va_D A (wd_Pai_spread cI cJ cG cZ a0 a0_paint a0_near a0_free a0_uses r0_free v0_items v0_evenly v0_palette v0_share v0_bigger v0_bigNow_20 w0_near w0_free_11) := hD.part [0, 1, 2] (by decide) rfl
        have hFc : ∀ q, va_A (wd_Pai_spread cI cJ cG cZ a0 a0_paint a0_near a0_free a0_uses r0_free v0_items v0_evenly v0_palette v0_share v0_bigger v0_bigNow_20 w0_near w0_free_11) H.size q → A q := va_freeP hD hS hA [0, 1, 2] rfl
        refine va_calli (va_runV (As := [.int 0, .int p2, .int p1, .int x4_8]) (rest := []) ⟨hx, hb, hml, hown, htt⟩ (c_Pai_spread l dC dI cI cJ cG cZ a0 a0_paint a0_near a0_free a0_uses r0_free H.size F v0_items v0_evenly v0_palette v0_share v0_bigger v0_bigNow_20 w0_near w0_free_11 (0 : Int32) p2 p1 x4_8 q_24 w0_free_25 hc_26) (cwV 4 htt (gdV kt_349 kt_351 kp_9 kt_3 kt_352) rfl rfl rfl (by decide +kernel) ⟨(Nat.le_of_ble_eq_true rfl), (Nat.le_of_ble_eq_true rfl)⟩) ⟨PcS_blind, va_recv hK hPc (ci := 2) (q0 := 0) rfl rfl, PcS_in hPc hK hDc hNw⟩ rfl rfl hl.1 rfl (lv_room (Nat.le_of_ble_eq_true rfl)) d_Pai_settle_62 ⟨Nat.zero_le _, Nat.zero_le _⟩) hS (fun q _ h => hFc q h) hFc (fun r_28 u t H1 locs ht hvm hw hB hz1 hk1 hS => ?_)
        obtain ⟨hP1, hK1, hD1⟩ := hB
        rw [ht] at hP1
        obtain ⟨hw, hz_29⟩ := hw
        subst hw
        obtain ⟨hP, hD⟩ := va_joinP (wr := [(a0_uses, .inl (cI, 12, .inl w0_uses_21))]) (rx := (we_Pai_spread cI cJ cG cZ a0 a0_paint a0_near a0_free a0_uses r0_free v0_items v0_evenly v0_palette v0_share v0_bigger v0_bigNow_20 w0_near w0_free_25)) hP hD [0, 1, 2] [3] rfl rfl (by decide) (by decide) hk1 hFc hP1 hD1
        have hP : va_P (dC, dI) vwCl (wd_Pai_settle cI cJ cG cZ a0 a0_paint a0_near a0_free a0_uses r0_free v0_items v0_evenly v0_palette v0_share v0_bigger v0_bigNow_20 w0_near w0_uses_21 w0_free_25) H1 := hP.part [1, 2, 3, 0] rfl
        have hD : va_D A (wd_Pai_settle cI cJ cG cZ a0 a0_paint a0_near a0_free a0_uses r0_free v0_items v0_evenly v0_palette v0_share v0_bigger v0_bigNow_20 w0_near w0_uses_21 w0_free_25) := hD.part [1, 2, 3, 0] (by decide) rfl
        clear hP1 hK1 hD1 hk1 hPc hDc hFc ht hvm hz1
        generalize H1 = H at hP hS ⊢
        obtain ⟨J_101, hJ_101, hm⟩ := gB_x hm
        have jp_101 : ∀ (v0_bigNow_30 : Int32) (w0_uses_31 : Nat → Int32) (w0_free_32 : Nat → Nat → Int32) (ls : Array Slot) (H : Heap) (locs : List Loc), J_101 v0_bigNow_30 w0_uses_31 w0_free_32 = some (ret, o_v0_bigNow, o_w0_uses, o_w0_free) → lv_has ls 5 [(0, .ref a0), (1, .int p1), (2, .int p2), (3, .int x3_7), (4, .int x4_8)] → va_P (dC, dI) vwCl (wd_Pai_settle cI cJ cG cZ a0 a0_paint a0_near a0_free a0_uses r0_free v0_items v0_evenly v0_palette v0_share v0_bigger v0_bigNow_30 w0_near w0_uses_31 w0_free_32) H → va_D A (wd_Pai_settle cI cJ cG cZ a0 a0_paint a0_near a0_free a0_uses r0_free v0_items v0_evenly v0_palette v0_share v0_bigger v0_bigNow_30 w0_near w0_uses_31 w0_free_32) → va_S A s.heap H locs → W p l e (headSpec us_Pai_settle rm_Pai_settle).room s m ([.ref a0, .int p1, .int p2] : List Value).toArray below meth c H locs 0 0 (MQ below (va_Qi (fun (r : Int32) (_ : Unit) => ret = r) (fun _ t => PoS (dC, dI) (tyL cI cJ cG cZ) (wd_Pai_settle cI cJ cG cZ a0 a0_paint a0_near a0_free a0_uses r0_free v0_items v0_evenly v0_palette v0_share v0_bigger o_v0_bigNow w0_near o_w0_uses o_w0_free) A t) A) ([.ref a0, .int p1, .int p2] : List Value).toArray s 0 0 A) (F0 m 101 ls []) := by
          intro v0_bigNow_30 w0_uses_31 w0_free_32 ls H locs hm hl hP hD hS
          have hm := jn3 hJ_101 hm
          refine lv_aload_n hx hb d_Pai_settle_101 rfl (lv_at hl 0 rfl) ?_
          refine lv_iload hx hb d_Pai_settle_102 (lv_at hl 4 rfl) ?_
          obtain ⟨⟨v0_bigNow_33, w0_uses_34⟩, hc_35, hm⟩ := gM_e hm
          dsimp only at hm
          have hPc : va_P (dC, dI) vwCl (wd_Pai_unuse cI cJ cG cZ a0 a0_paint a0_near a0_free a0_uses v0_items v0_evenly v0_palette v0_share v0_bigger v0_bigNow_30 w0_uses_31) H := hP.sub [0, 3] rfl
          have hDc : va_D A (wd_Pai_unuse cI cJ cG cZ a0 a0_paint a0_near a0_free a0_uses v0_items v0_evenly v0_palette v0_share v0_bigger v0_bigNow_30 w0_uses_31) := hD.sub [0, 3] (by decide) rfl
          have hFc : ∀ q, va_A (wd_Pai_unuse cI cJ cG cZ a0 a0_paint a0_near a0_free a0_uses v0_items v0_evenly v0_palette v0_share v0_bigger v0_bigNow_30 w0_uses_31) H.size q → A q := va_free hD hS hA [0, 3] rfl
          refine va_callv (va_runV (As := [.int x4_8]) (rest := []) ⟨hx, hb, hml, hown, htt⟩ (c_Pai_unuse l dC dI cI cJ cG cZ a0 a0_paint a0_near a0_free a0_uses H.size F v0_items v0_evenly v0_palette v0_share v0_bigger v0_bigNow_30 w0_uses_31 x4_8 v0_bigNow_33 w0_uses_34 hc_35) (cwV 1 htt (gdV kt_353 kt_355 kp_10 kt_3 kt_356) rfl rfl rfl (by decide +kernel) ⟨(Nat.le_of_ble_eq_true rfl), (Nat.le_of_ble_eq_true rfl)⟩) ⟨PcS_blind, va_recv hK hPc (ci := 2) (q0 := 0) rfl rfl, PcS_in hPc hK hDc hNw⟩ rfl rfl hl.1 rfl (lv_room (Nat.le_of_ble_eq_true rfl)) d_Pai_settle_104 ⟨Nat.zero_le _, Nat.zero_le _⟩) hS (fun q _ h => hFc q h) hFc (fun u t H1 locs ht hvm hw hB hz1 hk1 hS => ?_)
          obtain ⟨hP1, hK1, hD1⟩ := hB
          rw [ht] at hP1
          obtain ⟨hP, hD⟩ := va_joinQ (wr := [(a0_near, .inl (cI, 16, .inl w0_near)), (a0_free, .inl (cG, 18, .inr (.inr (.inr (.inr (gO r0_free 18))))))]) (w1 := (wd_Pai_unuse cI cJ cG cZ a0 a0_paint a0_near a0_free a0_uses v0_items v0_evenly v0_palette v0_share v0_bigger v0_bigNow_33 w0_uses_34)) hP hD [0, 3] [1, 2] rfl rfl (by decide) (by decide) hk1 hFc hP1 hD1
          have hP : va_P (dC, dI) vwCl (wd_Pai_settle cI cJ cG cZ a0 a0_paint a0_near a0_free a0_uses r0_free v0_items v0_evenly v0_palette v0_share v0_bigger v0_bigNow_33 w0_near w0_uses_34 w0_free_32) H1 := hP.part [2, 0, 1, 3] rfl
          have hD : va_D A (wd_Pai_settle cI cJ cG cZ a0 a0_paint a0_near a0_free a0_uses r0_free v0_items v0_evenly v0_palette v0_share v0_bigger v0_bigNow_33 w0_near w0_uses_34 w0_free_32) := hD.part [2, 0, 1, 3] (by decide) rfl
          clear hP1 hK1 hD1 hk1 hPc hDc hFc ht hvm hz1
          generalize H1 = H at hP hS ⊢
          obtain ⟨x4_37, ex4_37⟩ : ∃ y : Int32, y = x4_8 + 1 := ⟨_, rfl⟩
          have hm := gB_at ex4_37 hm
          refine lv_iinc (v := x4_37) (lv' := [(4, .int x4_37), (0, .ref a0), (1, .int p1), (2, .int p2), (3, .int x3_7)]) hx hb d_Pai_settle_107 hl (k := 4) rfl (by rw [ex4_37]; rfl) (by decide) rfl (fun ls hl => ?_)
          refine lv_goto (tgt := 17) hx hb d_Pai_settle_110 (by decide) ?_
          exact ih_17 _ hm _ _ _ _ rfl ls H locs (lv_sub hl [1, 2, 3, 4, 0] rfl) hP hD hS
        clear hJ_101
        refine lv_if_eq (tgt := 101) hx hb d_Pai_settle_65 (by decide) (fun c_38 => ?_) (fun c_38 => ?_)
        · have hm := ite_t c_38 hm
          exact jp_101 _ _ _ ls H locs hm (lv_sub hl [0, 1, 2, 3, 4] rfl) hP hD hS
        · have hm := ite_f c_38 hm
          refine lv_aload_n hx hb d_Pai_settle_68 rfl (lv_at hl 0 rfl) ?_
          refine lv_iconst (v := 1) hx hb d_Pai_settle_69 (by decide) ?_
          refine lv_iload_n hx hb d_Pai_settle_70 rfl (lv_at hl 2 rfl) ?_
          obtain ⟨⟨q_39, v0_bigNow_40, w0_uses_41, w0_free_42⟩, hc_43, hm⟩ := gM_e hm
          dsimp only at hm
          have hPc : va_P (dC, dI) vwCl (wd_Pai_paintable cI cJ cG cZ a0 a0_paint a0_near a0_free a0_uses r0_free v0_items v0_evenly v0_palette v0_share v0_bigger v0_bigNow_20 w0_near w0_uses_21 w0_free_25) H := hP.part [0, 1, 2, 3] rfl
          have hDc : va_D A (wd_Pai_paintable cI cJ cG cZ a0 a0_paint a0_near a0_free a0_uses r0_free v0_items v0_evenly v0_palette v0_share v0_bigger v0_bigNow_20 w0_near w0_uses_21 w0_free_25) := hD.part [0, 1, 2, 3] (by decide) rfl
          have hFc : ∀ q, va_A (wd_Pai_paintable cI cJ cG cZ a0 a0_paint a0_near a0_free a0_uses r0_free v0_items v0_evenly v0_palette v0_share v0_bigger v0_bigNow_20 w0_near w0_uses_21 w0_free_25) H.size q → A q := va_freeP hD hS hA [0, 1, 2, 3] rfl
          refine va_calli (va_runV (As := [.int 1, .int p2]) (rest := []) ⟨hx, hb, hml, hown, htt⟩ (c_Pai_paintable l dC dI cI cJ cG cZ a0 a0_paint a0_near a0_free a0_uses r0_free H.size F 18 v0_items v0_evenly v0_palette v0_share v0_bigger v0_bigNow_20 w0_near w0_uses_21 w0_free_25 (1 : Int32) p2 q_39 v0_bigNow_40 w0_uses_41 w0_free_42 hc_43) (cwV 2 htt (gdV kt_310 kt_312 kp_1 kt_3 kt_313) rfl rfl rfl (by decide +kernel) ⟨(Nat.le_of_ble_eq_true rfl), (Nat.le_of_ble_eq_true rfl)⟩) ⟨PcS_blind, va_recv hK hPc (ci := 2) (q0 := 0) rfl rfl, PcS_in hPc hK hDc hNw⟩ rfl rfl hl.1 rfl (lv_room (Nat.le_of_ble_eq_true rfl)) d_Pai_settle_71 ⟨Nat.zero_le _, Nat.zero_le _⟩) hS (fun q _ h => hFc q h) hFc (fun r_45 u t H1 locs ht hvm hw hB hz1 hk1 hS => ?_)
          obtain ⟨hP1, hK1, hD1⟩ := hB
          rw [ht] at hP1
          obtain ⟨hw, hz_46⟩ := hw
          subst hw
          obtain ⟨hP, hD⟩ := va_joinP (wr := []) (rx := (we_Pai_paintable cI cJ cG cZ a0 a0_paint a0_near a0_free a0_uses r0_free v0_items v0_evenly v0_palette v0_share v0_bigger v0_bigNow_40 w0_near w0_uses_41 w0_free_42)) hP hD [0, 1, 2, 3] [] rfl rfl (by decide) (by decide) hk1 hFc hP1 hD1
          have hP : va_P (dC, dI) vwCl (wd_Pai_settle cI cJ cG cZ a0 a0_paint a0_near a0_free a0_uses r0_free v0_items v0_evenly v0_palette v0_share v0_bigger v0_bigNow_40 w0_near w0_uses_41 w0_free_42) H1 := hP.part [0, 1, 2, 3] rfl
          have hD : va_D A (wd_Pai_settle cI cJ cG cZ a0 a0_paint a0_near a0_free a0_uses r0_free v0_items v0_evenly v0_palette v0_share v0_bigger v0_bigNow_40 w0_near w0_uses_41 w0_free_42) := hD.part [0, 1, 2, 3] (by decide) rfl
          clear hP1 hK1 hD1 hk1 hPc hDc hFc ht hvm hz1
          generalize H1 = H at hP hS ⊢
          refine lv_if_eq (tgt := 101) hx hb d_Pai_settle_74 (by decide) (fun c_47 => ?_) (fun c_47 => ?_)
          · have hm := ite_t c_47 hm
            exact jp_101 _ _ _ ls H locs hm (lv_sub hl [0, 1, 2, 3, 4] rfl) hP hD hS
          · have hm := ite_f c_47 hm
            refine lv_aload_n hx hb d_Pai_settle_77 rfl (lv_at hl 0 rfl) ?_
            refine va_get (D := (dC, dI)) (ci := 2) (v := .ref a0_free) (C := R_Pai) (T := T_Pai) (N := 10) hx hb htt hin_Pai hown hK hP 0 rfl rfl 2 (by decide) (htt _ kt_84) (fun _ h9 => h9) rfl d_Pai_settle_78 ?_
            refine lv_iconst (v := 1) hx hb d_Pai_settle_81 (by decide) ?_
            obtain ⟨hi_48, hm⟩ := gC_e hm
            have hj_49 := inb_lt hi_48
            refine gx_ald hx hb hK hP 2 2 rfl rfl (inb_vp hi_48) d_Pai_settle_82 ?_
            refine lv_iconst (v := 0) hx hb d_Pai_settle_83 (by decide) ?_
            refine lv_aload_n hx hb d_Pai_settle_84 rfl (lv_at hl 0 rfl) ?_
            refine va_get (D := (dC, dI)) (ci := 2) (v := .ref a0_free) (C := R_Pai) (T := T_Pai) (N := 10) hx hb htt hin_Pai hown hK hP 0 rfl rfl 2 (by decide) (htt _ kt_84) (fun _ h9 => h9) rfl d_Pai_settle_85 ?_
            refine lv_iconst (v := 0) hx hb d_Pai_settle_88 (by decide) ?_
            obtain ⟨hi_50, hm⟩ := gC_e hm
            have hj_51 := inb_lt hi_50
            refine gx_ald hx hb hK hP 2 2 rfl rfl (inb_vp hi_50) d_Pai_settle_89 ?_
            refine lv_iconst (v := 0) hx hb d_Pai_settle_90 (by decide) ?_
            refine lv_aload_n hx hb d_Pai_settle_91 rfl (lv_at hl 0 rfl) ?_
            refine va_get (D := (dC, dI)) (ci := 2) (v := .int v0_items) (C := R_Pai) (T := T_Pai) (N := 10) hx hb htt hin_Pai hown hK hP 0 rfl rfl 4 (by decide) (htt _ kt_86) (fun _ h9 => h9) rfl d_Pai_settle_92 ?_
            obtain ⟨hy_52, hm⟩ := gC_e hm
            refine gx_copy hx hb hml hown htt kt_303 hK hP hD hS (4 + (1 : Int32).toNatClampNeg) (4 + (0 : Int32).toNatClampNeg) (rows_get rfl hj_49) (rows_get rfl hj_51) hy_52 hl.1 (lv_room (Nat.le_of_ble_eq_true rfl)) (Nat.le_of_ble_eq_true rfl) (Nat.le_of_ble_eq_true rfl) d_Pai_settle_95 (fun H locs hP hD hS => ?_)
            have hP := rows_setP rfl hP
            have hD := rows_setD rfl hD
            have hP : va_P (dC, dI) vwCl (wd_Pai_settle cI cJ cG cZ a0 a0_paint a0_near a0_free a0_uses r0_free v0_items v0_evenly v0_palette v0_share v0_bigger v0_bigNow_40 w0_near w0_uses_41 (gF w0_free_42 ((0 : Int32).toNatClampNeg) (va_cpy (w0_free_42 ((1 : Int32).toNatClampNeg)) (w0_free_42 ((0 : Int32).toNatClampNeg)) (0 : Int32).toNatClampNeg (0 : Int32).toNatClampNeg v0_items.toNatClampNeg))) H := hP
            have hD : va_D A (wd_Pai_settle cI cJ cG cZ a0 a0_paint a0_near a0_free a0_uses r0_free v0_items v0_evenly v0_palette v0_share v0_bigger v0_bigNow_40 w0_near w0_uses_41 (gF w0_free_42 ((0 : Int32).toNatClampNeg) (va_cpy (w0_free_42 ((1 : Int32).toNatClampNeg)) (w0_free_42 ((0 : Int32).toNatClampNeg)) (0 : Int32).toNatClampNeg (0 : Int32).toNatClampNeg v0_items.toNatClampNeg))) := hD
            refine lv_iload hx hb d_Pai_settle_98 (lv_at hl 4 rfl) ?_
            cases hm
            exact W.iret hx hb hr (fun t ht hW => ⟨⟨_, (), rfl, rfl, by rw [ht]; exact hP, va_K.moved hW.alike hK, hD⟩, hS.F ht⟩) hS.2.2 d_Pai_settle_100
      · have hm := ite_f c_19 hm
        refine lv_goto (tgt := 107) hx hb d_Pai_settle_47 (by decide) ?_
        obtain ⟨x4_53, ex4_53⟩ : ∃ y : Int32, y = x4_8 + 1 := ⟨_, rfl⟩
        have hm := gB_at ex4_53 hm
        refine lv_iinc (v := x4_53) (lv' := [(4, .int x4_53), (0, .ref a0), (1, .int p1), (2, .int p2), (3, .int x3_7)]) hx hb d_Pai_settle_107 hl (k := 4) rfl (by rw [ex4_53]; rfl) (by decide) rfl (fun ls hl => ?_)
        refine lv_goto (tgt := 17) hx hb d_Pai_settle_110 (by decide) ?_
        exact ih_17 _ hm _ _ _ _ rfl ls H locs (lv_sub hl [1, 2, 3, 4, 0] rfl) hP hD hS
theorem d_Pai_paintFirst_0 : decode prog_5_method_7_code 0 = .ok (.iconst 1, 1) := by decide +kernel
theorem d_Pai_paintFirst_1 : decode prog_5_method_7_code 1 = .ok (.aload_n 0, 1) := by decide +kernel
theorem d_Pai_paintFirst_2 : decode prog_5_method_7_code 2 = .ok (.getfield 58, 3) := by decide +kernel
theorem d_Pai_paintFirst_5 : decode prog_5_method_7_code 5 = .ok (.ishl, 1) := by decide +kernel
theorem d_Pai_paintFirst_6 : decode prog_5_method_7_code 6 = .ok (.iconst 1, 1) := by decide +kernel
theorem d_Pai_paintFirst_7 : decode prog_5_method_7_code 7 = .ok (.isub, 1) := by decide +kernel
theorem d_Pai_paintFirst_8 : decode prog_5_method_7_code 8 = .ok (.istore_n 1, 1) := by decide +kernel
theorem d_Pai_paintFirst_9 : decode prog_5_method_7_code 9 = .ok (.aload_n 0, 1) := by decide +kernel
theorem d_Pai_paintFirst_10 : decode prog_5_method_7_code 10 = .ok (.iconst 0, 1) := by decide +kernel
theorem d_Pai_paintFirst_11 : decode prog_5_method_7_code 11 = .ok (.iload_n 1, 1) := by decide +kernel
theorem d_Pai_paintFirst_12 : decode prog_5_method_7_code 12 = .ok (.invokevirtual 83, 3) := by decide +kernel
theorem d_Pai_paintFirst_15 : decode prog_5_method_7_code 15 = .ok (.ifCond .ne 5, 3) := by decide +kernel
theorem d_Pai_paintFirst_18 : decode prog_5_method_7_code 18 = .ok (.iconst 0, 1) := by decide +kernel
theorem d_Pai_paintFirst_19 : decode prog_5_method_7_code 19 = .ok (.ireturn, 1) := by decide +kernel
theorem d_Pai_paintFirst_20 : decode prog_5_method_7_code 20 = .ok (.iconst 0, 1) := by decide +kernel
theorem d_Pai_paintFirst_21 : decode prog_5_method_7_code 21 = .ok (.istore_n 2, 1) := by decide +kernel
theorem d_Pai_paintFirst_22 : decode prog_5_method_7_code 22 = .ok (.iload_n 2, 1) := by decide +kernel
theorem d_Pai_paintFirst_23 : decode prog_5_method_7_code 23 = .ok (.aload_n 0, 1) := by decide +kernel
theorem d_Pai_paintFirst_24 : decode prog_5_method_7_code 24 = .ok (.getfield 58, 3) := by decide +kernel
theorem d_Pai_paintFirst_27 : decode prog_5_method_7_code 27 = .ok (.if_icmp .ge 29, 3) := by decide +kernel
theorem d_Pai_paintFirst_30 : decode prog_5_method_7_code 30 = .ok (.iload_n 1, 1) := by decide +kernel
theorem d_Pai_paintFirst_31 : decode prog_5_method_7_code 31 = .ok (.iconst 1, 1) := by decide +kernel
theorem d_Pai_paintFirst_32 : decode prog_5_method_7_code 32 = .ok (.iload_n 2, 1) := by decide +kernel
theorem d_Pai_paintFirst_33 : decode prog_5_method_7_code 33 = .ok (.ishl, 1) := by decide +kernel
theorem d_Pai_paintFirst_34 : decode prog_5_method_7_code 34 = .ok (.iconst (-1), 1) := by decide +kernel
theorem d_Pai_paintFirst_35 : decode prog_5_method_7_code 35 = .ok (.ixor, 1) := by decide +kernel
theorem d_Pai_paintFirst_36 : decode prog_5_method_7_code 36 = .ok (.iand, 1) := by decide +kernel
theorem d_Pai_paintFirst_37 : decode prog_5_method_7_code 37 = .ok (.istore_n 1, 1) := by decide +kernel
theorem d_Pai_paintFirst_38 : decode prog_5_method_7_code 38 = .ok (.aload_n 0, 1) := by decide +kernel
theorem d_Pai_paintFirst_39 : decode prog_5_method_7_code 39 = .ok (.getfield 11, 3) := by decide +kernel
theorem d_Pai_paintFirst_42 : decode prog_5_method_7_code 42 = .ok (.iload_n 2, 1) := by decide +kernel
theorem d_Pai_paintFirst_43 : decode prog_5_method_7_code 43 = .ok (.aload_n 0, 1) := by decide +kernel
theorem d_Pai_paintFirst_44 : decode prog_5_method_7_code 44 = .ok (.iload_n 2, 1) := by decide +kernel
theorem d_Pai_paintFirst_45 : decode prog_5_method_7_code 45 = .ok (.iload_n 1, 1) := by decide +kernel
theorem d_Pai_paintFirst_46 : decode prog_5_method_7_code 46 = .ok (.invokevirtual 87, 3) := by decide +kernel
theorem d_Pai_paintFirst_49 : decode prog_5_method_7_code 49 = .ok (.iastore, 1) := by decide +kernel
theorem d_Pai_paintFirst_50 : decode prog_5_method_7_code 50 = .ok (.iinc 2 1, 3) := by decide +kernel
theorem d_Pai_paintFirst_53 : decode prog_5_method_7_code 53 = .ok (.goto (-31), 3) := by decide +kernel
theorem d_Pai_paintFirst_56 : decode prog_5_method_7_code 56 = .ok (.iconst 1, 1) := by decide +kernel
theorem d_Pai_paintFirst_57 : decode prog_5_method_7_code 57 = .ok (.ireturn, 1) := by decide +kernel
abbrev wd_Pai_paintFirst (cI cJ cG cZ : ClassId) (a0 a0_paint a0_near a0_free a0_uses : Nat) (r0_free : Nat → Nat) (v0_items : Int32) (v0_evenly : Int32) (v0_palette : Int32) (v0_share : Int32) (v0_bigger : Int32) (v0_bigNow : Int32) (w0_paint : Nat → Int32) (w0_near : Nat → Int32) (w0_uses : Nat → Int32) (w0_free : Nat → Nat → Int32) : va_W := [(a0, .inr (2, [.ref a0_paint, .ref a0_near, .ref a0_free, .ref a0_uses, .int v0_items, .int v0_evenly, .int v0_palette, .int v0_share, .int v0_bigger, .int v0_bigNow])), (a0_paint, .inl (cI, 16, .inl w0_paint)), (a0_near, .inl (cI, 16, .inl w0_near)), (a0_free, .inl (cG, 18, .inr (.inr (.inr (.inr (gO r0_free 18)))))), (a0_uses, .inl (cI, 12, .inl w0_uses))] ++ rowsW r0_free cI 16 18 w0_free
abbrev we_Pai_paintFirst (cI cJ cG cZ : ClassId) (a0 a0_paint a0_near a0_free a0_uses : Nat) (r0_free : Nat → Nat) (v0_items : Int32) (v0_evenly : Int32) (v0_palette : Int32) (v0_share : Int32) (v0_bigger : Int32) (v0_bigNow : Int32) (w0_paint : Nat → Int32) (w0_near : Nat → Int32) (w0_uses : Nat → Int32) (w0_free : Nat → Nat → Int32) : va_W := [(a0, .inr (2, [.ref a0_paint, .ref a0_near, .ref a0_free, .ref a0_uses, .int v0_items, .int v0_evenly, .int v0_palette, .int v0_share, .int v0_bigger, .int v0_bigNow])), (a0_paint, .inl (cI, 16, .inl w0_paint)), (a0_near, .inl (cI, 16, .inl w0_near)), (a0_free, .inl (cG, 18, .inr (.inr (.inr (.inr (gO r0_free 18)))))), (a0_uses, .inl (cI, 12, .inl w0_uses))]
abbrev us_Pai_paintFirst : List Cond := .code y_Pai_paintFirst prog_5_method_7_code 3 (some .boolean) :: gtbl
abbrev rm_Pai_paintFirst : Room := { frames := 22, cells := 0, slots := 0, locals := 625 }
def m_Pai_paintFirst (F : Nat) (v0_items : Int32) (v0_evenly : Int32) (v0_palette : Int32) (v0_share : Int32) (v0_bigger : Int32) (v0_bigNow : Int32) (w0_paint : Nat → Int32) (w0_near : Nat → Int32) (w0_uses : Nat → Int32) (w0_free : Nat → Nat → Int32) : Option (Int32 × Int32 × (Nat → Int32) × (Nat → Int32) × (Nat → Nat → Int32)) :=
  gB (((1 : Int32) <<< (v0_items &&& 31)) - 1) (fun x1_1 =>
  gM (m_Pai_paintable F 18 v0_items v0_evenly v0_palette v0_share v0_bigger v0_bigNow w0_near w0_uses w0_free (0 : Int32) x1_1) (fun (z_7 : Int32 × Int32 × (Nat → Int32) × (Nat → Nat → Int32)) => match z_7 with
  | (q_2, v0_bigNow_3, w0_uses_4, w0_free_5) =>
  if q_2 = 0 then (
    some (0, v0_bigNow_3, w0_paint, w0_uses_4, w0_free_5)
  ) else (
    gL (fun (k_22 : (Int32 × Int32 × Int32 × (Nat → Int32) × (Nat → Int32) × (Nat → Nat → Int32)) → Option (Int32 × Int32 × (Nat → Int32) × (Nat → Int32) × (Nat → Nat → Int32))) (z_22 : Int32 × Int32 × Int32 × (Nat → Int32) × (Nat → Int32) × (Nat → Nat → Int32)) => match z_22 with
    | (x1_11, x2_12, v0_bigNow_13, w0_paint_14, w0_uses_15, w0_free_16) =>
    if v0_items ≤ x2_12 then (
      some (1, v0_bigNow_13, w0_paint_14, w0_uses_15, w0_free_16)
    ) else (
      gB (x1_11 &&& (((1 : Int32) <<< (x2_12 &&& 31)) ^^^ (-1))) (fun x1_18 =>
      gM (m_Pai_settle F v0_items v0_evenly v0_palette v0_share v0_bigger v0_bigNow_13 w0_near w0_uses_15 w0_free_16 x2_12 x1_18) (fun (z_24 : Int32 × Int32 × (Nat → Int32) × (Nat → Nat → Int32)) => match z_24 with
      | (q_19, v0_bigNow_20, w0_uses_21, w0_free_22) =>
      gC (inb x2_12 16) (
      gB (x2_12 + 1) (fun x2_27 =>
      k_22 (x1_18, x2_27, v0_bigNow_20, upd w0_paint_14 x2_12.toNatClampNeg q_19, w0_uses_21, w0_free_22)))))
    )
    ) F (x1_1, 0, v0_bigNow_3, w0_paint, w0_uses_4, w0_free_5)
  )))
set_option maxHeartbeats 4000000 in
set_option maxRecDepth 100000 in
theorem c_Pai_paintFirst (l : Launch) (dC : Nat → ClassId) (dI : Nat → Nat → Nat) (cI cJ cG cZ : ClassId) (a0 a0_paint a0_near a0_free a0_uses : Nat) (r0_free : Nat → Nat) (sz : Nat) (F : Nat) (v0_items : Int32) (v0_evenly : Int32) (v0_palette : Int32) (v0_share : Int32) (v0_bigger : Int32) (v0_bigNow : Int32) (w0_paint : Nat → Int32) (w0_near : Nat → Int32) (w0_uses : Nat → Int32) (w0_free : Nat → Nat → Int32) (ret : Int32) (o_v0_bigNow : Int32) (o_w0_paint : Nat → Int32) (o_w0_uses : Nat → Int32) (o_w0_free : Nat → Nat → Int32) (hm : m_Pai_paintFirst F v0_items v0_evenly v0_palette v0_share v0_bigger v0_bigNow w0_paint w0_near w0_uses w0_free = some (ret, o_v0_bigNow, o_w0_paint, o_w0_uses, o_w0_free)) : Met l y_Pai_paintFirst us_Pai_paintFirst rm_Pai_paintFirst (PcS (dC, dI) (tyL cI cJ cG cZ) [.ref a0] sz (wd_Pai_paintFirst cI cJ cG cZ a0 a0_paint a0_near a0_free a0_uses r0_free v0_items v0_evenly v0_palette v0_share v0_bigger v0_bigNow w0_paint w0_near w0_uses w0_free)) (va_Qi (fun (r : Int32) (_ : Unit) => ret = r ∧ bz r) (fun _ t => PoS (dC, dI) (tyL cI cJ cG cZ) (wd_Pai_paintFirst cI cJ cG cZ a0 a0_paint a0_near a0_free a0_uses r0_free v0_items v0_evenly v0_palette v0_share v0_bigger o_v0_bigNow o_w0_paint w0_near o_w0_uses o_w0_free) (va_A (wd_Pai_paintFirst cI cJ cG cZ a0 a0_paint a0_near a0_free a0_uses r0_free v0_items v0_evenly v0_palette v0_share v0_bigger v0_bigNow w0_paint w0_near w0_uses w0_free) sz) t) (va_A (wd_Pai_paintFirst cI cJ cG cZ a0 a0_paint a0_near a0_free a0_uses r0_free v0_items v0_evenly v0_palette v0_share v0_bigger v0_bigNow w0_paint w0_near w0_uses w0_free) sz)) 0 0 (va_A (wd_Pai_paintFirst cI cJ cG cZ a0 a0_paint a0_near a0_free a0_uses r0_free v0_items v0_evenly v0_palette v0_share v0_bigger v0_bigNow w0_paint w0_near w0_uses w0_free) sz) := by
  refine Met.ofW (cc := prog_5_method_7_code) (maxL := 3) (ret := (some .boolean)) (by decide) rfl ?_
  intro p e s m args below meth c s₁ B hml hv
  obtain ⟨rfl, hsz, hP, hK, hD0, hNw⟩ := hv
  have hx := B.exec
  have hb := B.bytes
  have hr := B.returns
  have htt : ∀ w ∈ gtbl, w.before _ s = true := fun w h => atoms_spec (ws := us_Pai_paintFirst) B.pre w (List.mem_cons_of_mem _ h)
  have hown : s.vm.findClass R_Pai = some m.cls := findClass_of_methodNamed B.named
  have hlocks := B.notSynchronized
  subst hsz
  have hD := hD0.self (sz := s.heap.size)
  generalize hAe : va_A (wd_Pai_paintFirst cI cJ cG cZ a0 a0_paint a0_near a0_free a0_uses r0_free v0_items v0_evenly v0_palette v0_share v0_bigger v0_bigNow w0_paint w0_near w0_uses w0_free) s.heap.size = A at hD ⊢
  have hA : ∀ q : Nat, s.heap.size ≤ q → A q := fun q h => by rw [← hAe]; exact Or.inr h
  clear hAe hD0
  have hS : va_S A s.heap s.heap [] := va_S.rf
  have hl := lv_entry ([.ref a0]) (n := 3) (Nat.le_of_ble_eq_true rfl)
  rw [lg_entry_eq]
  generalize (lg_sl ([.ref a0]) ++ List.replicate (3 - (lg_sl ([.ref a0])).length) Slot.unset).toArray = ls at hl ⊢
  have hl : lv_has ls 3 [(0, .ref a0)] := hl
  generalize hH : s.heap = H at hP ⊢
  have hS : va_S A s.heap H [] := hH ▸ hS
  generalize hLo : ([] : List Loc) = locs at hS ⊢
  clear hH hLo
  unfold m_Pai_paintFirst at hm
  refine lv_iconst (v := 1) hx hb d_Pai_paintFirst_0 (by decide) ?_
  refine lv_aload_n hx hb d_Pai_paintFirst_1 rfl (lv_at hl 0 rfl) ?_
  refine va_get (D := (dC, dI)) (ci := 2) (v := .int v0_items) (C := R_Pai) (T := T_Pai) (N := 10) hx hb htt hin_Pai hown hK hP 0 rfl rfl 4 (by decide) (htt _ kt_86) (fun _ h9 => h9) rfl d_Pai_paintFirst_2 ?_
  refine lv_ishl hx hb d_Pai_paintFirst_5 ?_
  refine lv_iconst (v := 1) hx hb d_Pai_paintFirst_6 (by decide) ?_
  refine lv_isub hx hb d_Pai_paintFirst_7 ?_
  refine lv_topi (fun x1_1 ex1_1 => ?_)
  have hm := gB_at ex1_1 hm
  refine lv_istore_n (lv' := [(1, .int x1_1), (0, .ref a0)]) hx hb d_Pai_paintFirst_8 rfl hl (by decide) rfl (fun ls hl => ?_)
  refine lv_aload_n hx hb d_Pai_paintFirst_9 rfl (lv_at hl 1 rfl) ?_
  refine lv_iconst (v := 0) hx hb d_Pai_paintFirst_10 (by decide) ?_
  refine lv_iload_n hx hb d_Pai_paintFirst_11 rfl (lv_at hl 0 rfl) ?_
  obtain ⟨⟨q_2, v0_bigNow_3, w0_uses_4, w0_free_5⟩, hc_6, hm⟩ := gM_e hm
  dsimp only at hm
  have hPc : va_P (dC, dI) vwCl (wd_Pai_paintable cI cJ cG cZ a0 a0_paint a0_near a0_free a0_uses r0_free v0_items v0_evenly v0_palette v0_share v0_bigger v0_bigNow w0_near w0_uses w0_free) H := hP.part [0, 2, 3, 4] rfl
  have hDc : va_D A (wd_Pai_paintable cI cJ cG cZ a0 a0_paint a0_near a0_free a0_uses r0_free v0_items v0_evenly v0_palette v0_share v0_bigger v0_bigNow w0_near w0_uses w0_free) := hD.part [0, 2, 3, 4] (by decide) rfl
  have hFc : ∀ q, va_A (wd_Pai_paintable cI cJ cG cZ a0 a0_paint a0_near a0_free a0_uses r0_free v0_items v0_evenly v0_palette v0_share v0_bigger v0_bigNow w0_near w0_uses w0_free) H.size q → A q := va_freeP hD hS hA [0, 2, 3, 4] rfl
  refine va_calli (va_runV (As := [.int 0, .int x1_1]) (rest := []) ⟨hx, hb, hml, hown, htt⟩ (c_Pai_paintable l dC dI cI cJ cG cZ a0 a0_paint a0_near a0_free a0_uses r0_free H.size F 18 v0_items v0_evenly v0_palette v0_share v0_bigger v0_bigNow w0_near w0_uses w0_free (0 : Int32) x1_1 q_2 v0_bigNow_3 w0_uses_4 w0_free_5 hc_6) (cwV 2 htt (gdV kt_310 kt_312 kp_1 kt_3 kt_313) rfl rfl rfl (by decide +kernel) ⟨(Nat.le_of_ble_eq_true rfl), (Nat.le_of_ble_eq_true rfl)⟩) ⟨PcS_blind, va_recv hK hPc (ci := 2) (q0 := 0) rfl rfl, PcS_in hPc hK hDc hNw⟩ rfl rfl hl.1 rfl (lv_room (Nat.le_of_ble_eq_true rfl)) d_Pai_paintFirst_12 ⟨Nat.zero_le _, Nat.zero_le _⟩) hS (fun q _ h => hFc q h) hFc (fun r_8 u t H1 locs ht hvm hw hB hz1 hk1 hS => ?_)
  obtain ⟨hP1, hK1, hD1⟩ := hB
  rw [ht] at hP1
  obtain ⟨hw, hz_9⟩ := hw
  subst hw
  obtain ⟨hP, hD⟩ := va_joinP (wr := [(a0_paint, .inl (cI, 16, .inl w0_paint))]) (rx := (we_Pai_paintable cI cJ cG cZ a0 a0_paint a0_near a0_free a0_uses r0_free v0_items v0_evenly v0_palette v0_share v0_bigger v0_bigNow_3 w0_near w0_uses_4 w0_free_5)) hP hD [0, 2, 3, 4] [1] rfl rfl (by decide) (by decide) hk1 hFc hP1 hD1
  have hP : va_P (dC, dI) vwCl (wd_Pai_paintFirst cI cJ cG cZ a0 a0_paint a0_near a0_free a0_uses r0_free v0_items v0_evenly v0_palette v0_share v0_bigger v0_bigNow_3 w0_paint w0_near w0_uses_4 w0_free_5) H1 := hP.part [1, 0, 2, 3, 4] rfl
  have hD : va_D A (wd_Pai_paintFirst cI cJ cG cZ a0 a0_paint a0_near a0_free a0_uses r0_free v0_items v0_evenly v0_palette v0_share v0_bigger v0_bigNow_3 w0_paint w0_near w0_uses_4 w0_free_5) := hD.part [1, 0, 2, 3, 4] (by decide) rfl
  clear hP1 hK1 hD1 hk1 hPc hDc hFc ht hvm hz1
  generalize H1 = H at hP hS ⊢
  refine lv_if_ne (tgt := 20) hx hb d_Pai_paintFirst_15 (by decide) (fun c_10 => ?_) (fun c_10 => ?_)
  · have hm := ite_f c_10 hm
    refine lv_iconst (v := 0) hx hb d_Pai_paintFirst_20 (by decide) ?_
    refine lv_istore_n (lv' := [(2, .int 0), (1, .int x1_1), (0, .ref a0)]) hx hb d_Pai_paintFirst_21 rfl hl (by decide) rfl (fun ls hl => ?_)
    refine gL_e (P := (fun (z_22 : Int32 × Int32 × Int32 × (Nat → Int32) × (Nat → Int32) × (Nat → Nat → Int32)) => ∀ (x1_11 : Int32), ∀ (x2_12 : Int32), ∀ (v0_bigNow_13 : Int32), ∀ (w0_paint_14 : Nat → Int32), ∀ (w0_uses_15 : Nat → Int32), ∀ (w0_free_16 : Nat → Nat → Int32), z_22 = (x1_11, x2_12, v0_bigNow_13, w0_paint_14, w0_uses_15, w0_free_16) → ∀ (ls : Array Slot) (H : Heap) (locs : List Loc), lv_has ls 3 [(0, .ref a0), (1, .int x1_11), (2, .int x2_12)] → va_P (dC, dI) vwCl (wd_Pai_paintFirst cI cJ cG cZ a0 a0_paint a0_near a0_free a0_uses r0_free v0_items v0_evenly v0_palette v0_share v0_bigger v0_bigNow_13 w0_paint_14 w0_near w0_uses_15 w0_free_16) H → va_D A (wd_Pai_paintFirst cI cJ cG cZ a0 a0_paint a0_near a0_free a0_uses r0_free v0_items v0_evenly v0_palette v0_share v0_bigger v0_bigNow_13 w0_paint_14 w0_near w0_uses_15 w0_free_16) → va_S A s.heap H locs → W p l e (headSpec us_Pai_paintFirst rm_Pai_paintFirst).room s m ([.ref a0] : List Value).toArray below meth c H locs 0 0 (MQ below (va_Qi (fun (r : Int32) (_ : Unit) => ret = r ∧ bz r) (fun _ t => PoS (dC, dI) (tyL cI cJ cG cZ) (wd_Pai_paintFirst cI cJ cG cZ a0 a0_paint a0_near a0_free a0_uses r0_free v0_items v0_evenly v0_palette v0_share v0_bigger o_v0_bigNow o_w0_paint w0_near o_w0_uses o_w0_free) A t) A) ([.ref a0] : List Value).toArray s 0 0 A) (F0 m 22 ls []))) hm (fun k_22 z_22 ih_22 hm => ?_) _ _ _ _ _ _ rfl ls H locs (lv_sub hl [2, 1, 0] rfl) hP hD hS
    intro x1_11 x2_12 v0_bigNow_13 w0_paint_14 w0_uses_15 w0_free_16 hz ls H locs hl hP hD hS
    subst hz
    dsimp only at hm
    refine lv_iload_n hx hb d_Pai_paintFirst_22 rfl (lv_at hl 2 rfl) ?_
    refine lv_aload_n hx hb d_Pai_paintFirst_23 rfl (lv_at hl 0 rfl) ?_
    refine va_get (D := (dC, dI)) (ci := 2) (v := .int v0_items) (C := R_Pai) (T := T_Pai) (N := 10) hx hb htt hin_Pai hown hK hP 0 rfl rfl 4 (by decide) (htt _ kt_86) (fun _ h9 => h9) rfl d_Pai_paintFirst_24 ?_
    refine lv_icmp_ge (tgt := 56) hx hb d_Pai_paintFirst_27 (by decide) (fun c_17 => ?_) (fun c_17 => ?_)
    · have hm := ite_t c_17 hm
      refine lv_iconst (v := 1) hx hb d_Pai_paintFirst_56 (by decide) ?_
      cases hm
      exact W.zret (ty := .boolean) hx hb hr (bz_nar (by decide : bz 1)) (fun t ht hW => ⟨⟨_, (), rfl, ⟨rfl, (by decide : bz 1)⟩, by rw [ht]; exact hP, va_K.moved hW.alike hK, hD⟩, hS.F ht⟩) hS.2.2 d_Pai_paintFirst_57
    · have hm := ite_f c_17 hm
      refine lv_iload_n hx hb d_Pai_paintFirst_30 rfl (lv_at hl 1 rfl) ?_
      refine lv_iconst (v := 1) hx hb d_Pai_paintFirst_31 (by decide) ?_
      refine lv_iload_n hx hb d_Pai_paintFirst_32 rfl (lv_at hl 2 rfl) ?_
      refine lv_ishl hx hb d_Pai_paintFirst_33 ?_
      refine lv_iconst (v := (-1)) hx hb d_Pai_paintFirst_34 (by decide) ?_
      refine lv_ixor hx hb d_Pai_paintFirst_35 ?_
      refine lv_iand hx hb d_Pai_paintFirst_36 ?_
      refine lv_topi (fun x1_18 ex1_18 => ?_)
      have hm := gB_at ex1_18 hm
      refine lv_istore_n (lv' := [(1, .int x1_18), (0, .ref a0), (2, .int x2_12)]) hx hb d_Pai_paintFirst_37 rfl hl (by decide) rfl (fun ls hl => ?_)
      refine lv_aload_n hx hb d_Pai_paintFirst_38 rfl (lv_at hl 1 rfl) ?_
      refine va_get (D := (dC, dI)) (ci := 2) (v := .ref a0_paint) (C := R_Pai) (T := T_Pai) (N := 10) hx hb htt hin_Pai hown hK hP 0 rfl rfl 0 (by decide) (htt _ kt_81) (fun _ h9 => h9) rfl d_Pai_paintFirst_39 ?_
      refine lv_iload_n hx hb d_Pai_paintFirst_42 rfl (lv_at hl 2 rfl) ?_
      refine lv_aload_n hx hb d_Pai_paintFirst_43 rfl (lv_at hl 1 rfl) ?_
      refine lv_iload_n hx hb d_Pai_paintFirst_44 rfl (lv_at hl 2 rfl) ?_
      refine lv_iload_n hx hb d_Pai_paintFirst_45 rfl (lv_at hl 0 rfl) ?_
      obtain ⟨⟨q_19, v0_bigNow_20, w0_uses_21, w0_free_22⟩, hc_23, hm⟩ := gM_e hm
      dsimp only at hm
      have hPc : va_P (dC, dI) vwCl (wd_Pai_settle cI cJ cG cZ a0 a0_paint a0_near a0_free a0_uses r0_free v0_items v0_evenly v0_palette v0_share v0_bigger v0_bigNow_13 w0_near w0_uses_15 w0_free_16) H := hP.part [0, 2, 3, 4] rfl
      have hDc : va_D A (wd_Pai_settle cI cJ cG cZ a0 a0_paint a0_near a0_free a0_uses r0_free v0_items v0_evenly v0_palette v0_share v0_bigger v0_bigNow_13 w0_near w0_uses_15 w0_free_16) := hD.part [0, 2, 3, 4] (by decide) rfl
      have hFc : ∀ q, va_A (wd_Pai_settle cI cJ cG cZ a0 a0_paint a0_near a0_free a0_uses r0_free v0_items v0_evenly v0_palette v0_share v0_bigger v0_bigNow_13 w0_near w0_uses_15 w0_free_16) H.size q → A q := va_freeP hD hS hA [0, 2, 3, 4] rfl
      refine va_calli (va_runV (As := [.int x2_12, .int x1_18]) (rest := [.int x2_12, .ref a0_paint]) ⟨hx, hb, hml, hown, htt⟩ (c_Pai_settle l dC dI cI cJ cG cZ a0 a0_paint a0_near a0_free a0_uses r0_free H.size F v0_items v0_evenly v0_palette v0_share v0_bigger v0_bigNow_13 w0_near w0_uses_15 w0_free_16 x2_12 x1_18 q_19 v0_bigNow_20 w0_uses_21 w0_free_22 hc_23) (cwV 2 htt (gdV kt_357 kt_359 kp_11 kt_3 kt_360) rfl rfl rfl (by decide +kernel) ⟨(Nat.le_of_ble_eq_true rfl), (Nat.le_of_ble_eq_true rfl)⟩) ⟨PcS_blind, va_recv hK hPc (ci := 2) (q0 := 0) rfl rfl, PcS_in hPc hK hDc hNw⟩ rfl rfl hl.1 rfl (lv_room (Nat.le_of_ble_eq_true rfl)) d_Pai_paintFirst_46 ⟨Nat.zero_le _, Nat.zero_le _⟩) hS (fun q _ h => hFc q h) hFc (fun r_25 u t H1 locs ht hvm hw hB hz1 hk1 hS => ?_)
      obtain ⟨hP1, hK1, hD1⟩ := hB
      rw [ht] at hP1
      subst hw
      obtain ⟨hP, hD⟩ := va_joinP (wr := [(a0_paint, .inl (cI, 16, .inl w0_paint_14))]) (rx := (we_Pai_settle cI cJ cG cZ a0 a0_paint a0_near a0_free a0_uses r0_free v0_items v0_evenly v0_palette v0_share v0_bigger v0_bigNow_20 w0_near w0_uses_21 w0_free_22)) hP hD [0, 2, 3, 4] [1] rfl rfl (by decide) (by decide) hk1 hFc hP1 hD1
      have hP : va_P (dC, dI) vwCl (wd_Pai_paintFirst cI cJ cG cZ a0 a0_paint a0_near a0_free a0_uses r0_free v0_items v0_evenly v0_palette v0_share v0_bigger v0_bigNow_20 w0_paint_14 w0_near w0_uses_21 w0_free_22) H1 := hP.part [1, 0, 2, 3, 4] rfl
      have hD : va_D A (wd_Pai_paintFirst cI cJ cG cZ a0 a0_paint a0_near a0_free a0_uses r0_free v0_items v0_evenly v0_palette v0_share v0_bigger v0_bigNow_20 w0_paint_14 w0_near w0_uses_21 w0_free_22) := hD.part [1, 0, 2, 3, 4] (by decide) rfl
      clear hP1 hK1 hD1 hk1 hPc hDc hFc ht hvm hz1
      generalize H1 = H at hP hS ⊢
      obtain ⟨hi_26, hm⟩ := gC_e hm
      refine va_iast hx hb hK hP hD hS 1 0 rfl rfl (inb_vp hi_26) d_Pai_paintFirst_49 (fun H locs hP hD hS => ?_)
      have hP : va_P (dC, dI) vwCl (wd_Pai_paintFirst cI cJ cG cZ a0 a0_paint a0_near a0_free a0_uses r0_free v0_items v0_evenly v0_palette v0_share v0_bigger v0_bigNow_20 (upd w0_paint_14 x2_12.toNatClampNeg q_19) w0_near w0_uses_21 w0_free_22) H := hP
      have hD : va_D A (wd_Pai_paintFirst cI cJ cG cZ a0 a0_paint a0_near a0_free a0_uses r0_free v0_items v0_evenly v0_palette v0_share v0_bigger v0_bigNow_20 (upd w0_paint_14 x2_12.toNatClampNeg q_19) w0_near w0_uses_21 w0_free_22) := hD
      obtain ⟨x2_27, ex2_27⟩ : ∃ y : Int32, y = x2_12 + 1 := ⟨_, rfl⟩
      have hm := gB_at ex2_27 hm
      refine lv_iinc (v := x2_27) (lv' := [(2, .int x2_27), (1, .int x1_18), (0, .ref a0)]) hx hb d_Pai_paintFirst_50 hl (k := 2) rfl (by rw [ex2_27]; rfl) (by decide) rfl (fun ls hl => ?_)
      refine lv_goto (tgt := 22) hx hb d_Pai_paintFirst_53 (by decide) ?_
      exact ih_22 _ hm _ _ _ _ _ _ rfl ls H locs (lv_sub hl [2, 1, 0] rfl) hP hD hS
  · have hm := ite_t c_10 hm
    refine lv_iconst (v := 0) hx hb d_Pai_paintFirst_18 (by decide) ?_
    cases hm
    exact W.zret (ty := .boolean) hx hb hr (bz_nar (by decide : bz 0)) (fun t ht hW => ⟨⟨_, (), rfl, ⟨rfl, (by decide : bz 0)⟩, by rw [ht]; exact hP, va_K.moved hW.alike hK, hD⟩, hS.F ht⟩) hS.2.2 d_Pai_paintFirst_19
theorem d_Pai_canPaint_0 : decode prog_5_method_9_code 0 = .ok (.aload_n 0, 1) := by decide +kernel
theorem d_Pai_canPaint_1 : decode prog_5_method_9_code 1 = .ok (.iconst 0, 1) := by decide +kernel
theorem d_Pai_canPaint_2 : decode prog_5_method_9_code 2 = .ok (.iload_n 1, 1) := by decide +kernel
theorem d_Pai_canPaint_3 : decode prog_5_method_9_code 3 = .ok (.invokevirtual 83, 3) := by decide +kernel
theorem d_Pai_canPaint_6 : decode prog_5_method_9_code 6 = .ok (.ireturn, 1) := by decide +kernel
abbrev wd_Pai_canPaint (cI cJ cG cZ : ClassId) (a0 a0_paint a0_near a0_free a0_uses : Nat) (r0_free : Nat → Nat) (v0_items : Int32) (v0_evenly : Int32) (v0_palette : Int32) (v0_share : Int32) (v0_bigger : Int32) (v0_bigNow : Int32) (w0_near : Nat → Int32) (w0_uses : Nat → Int32) (w0_free : Nat → Nat → Int32) : va_W := [(a0, .inr (2, [.ref a0_paint, .ref a0_near, .ref a0_free, .ref a0_uses, .int v0_items, .int v0_evenly, .int v0_palette, .int v0_share, .int v0_bigger, .int v0_bigNow])), (a0_near, .inl (cI, 16, .inl w0_near)), (a0_free, .inl (cG, 18, .inr (.inr (.inr (.inr (gO r0_free 18)))))), (a0_uses, .inl (cI, 12, .inl w0_uses))] ++ rowsW r0_free cI 16 18 w0_free
abbrev we_Pai_canPaint (cI cJ cG cZ : ClassId) (a0 a0_paint a0_near a0_free a0_uses : Nat) (r0_free : Nat → Nat) (v0_items : Int32) (v0_evenly : Int32) (v0_palette : Int32) (v0_share : Int32) (v0_bigger : Int32) (v0_bigNow : Int32) (w0_near : Nat → Int32) (w0_uses : Nat → Int32) (w0_free : Nat → Nat → Int32) : va_W := [(a0, .inr (2, [.ref a0_paint, .ref a0_near, .ref a0_free, .ref a0_uses, .int v0_items, .int v0_evenly, .int v0_palette, .int v0_share, .int v0_bigger, .int v0_bigNow])), (a0_near, .inl (cI, 16, .inl w0_near)), (a0_free, .inl (cG, 18, .inr (.inr (.inr (.inr (gO r0_free 18)))))), (a0_uses, .inl (cI, 12, .inl w0_uses))]
abbrev us_Pai_canPaint : List Cond := .code y_Pai_canPaint prog_5_method_9_code 2 (some .boolean) :: gtbl
abbrev rm_Pai_canPaint : Room := { frames := 21, cells := 0, slots := 0, locals := 601 }
def m_Pai_canPaint (F : Nat) (v0_items : Int32) (v0_evenly : Int32) (v0_palette : Int32) (v0_share : Int32) (v0_bigger : Int32) (v0_bigNow : Int32) (w0_near : Nat → Int32) (w0_uses : Nat → Int32) (w0_free : Nat → Nat → Int32) (p1 : Int32) : Option (Int32 × Int32 × (Nat → Int32) × (Nat → Nat → Int32)) :=
  gM (m_Pai_paintable F 18 v0_items v0_evenly v0_palette v0_share v0_bigger v0_bigNow w0_near w0_uses w0_free (0 : Int32) p1) (fun (z_6 : Int32 × Int32 × (Nat → Int32) × (Nat → Nat → Int32)) => match z_6 with
  | (q_1, v0_bigNow_2, w0_uses_3, w0_free_4) =>
  some (q_1, v0_bigNow_2, w0_uses_3, w0_free_4))
set_option maxHeartbeats 4000000 in
set_option maxRecDepth 100000 in
theorem c_Pai_canPaint (l : Launch) (dC : Nat → ClassId) (dI : Nat → Nat → Nat) (cI cJ cG cZ : ClassId) (a0 a0_paint a0_near a0_free a0_uses : Nat) (r0_free : Nat → Nat) (sz : Nat) (F : Nat) (v0_items : Int32) (v0_evenly : Int32) (v0_palette : Int32) (v0_share : Int32) (v0_bigger : Int32) (v0_bigNow : Int32) (w0_near : Nat → Int32) (w0_uses : Nat → Int32) (w0_free : Nat → Nat → Int32) (p1 : Int32) (ret : Int32) (o_v0_bigNow : Int32) (o_w0_uses : Nat → Int32) (o_w0_free : Nat → Nat → Int32) (hm : m_Pai_canPaint F v0_items v0_evenly v0_palette v0_share v0_bigger v0_bigNow w0_near w0_uses w0_free p1 = some (ret, o_v0_bigNow, o_w0_uses, o_w0_free)) : Met l y_Pai_canPaint us_Pai_canPaint rm_Pai_canPaint (PcS (dC, dI) (tyL cI cJ cG cZ) [.ref a0, .int p1] sz (wd_Pai_canPaint cI cJ cG cZ a0 a0_paint a0_near a0_free a0_uses r0_free v0_items v0_evenly v0_palette v0_share v0_bigger v0_bigNow w0_near w0_uses w0_free)) (va_Qi (fun (r : Int32) (_ : Unit) => ret = r ∧ bz r) (fun _ t => PoS (dC, dI) (tyL cI cJ cG cZ) (wd_Pai_canPaint cI cJ cG cZ a0 a0_paint a0_near a0_free a0_uses r0_free v0_items v0_evenly v0_palette v0_share v0_bigger o_v0_bigNow w0_near o_w0_uses o_w0_free) (va_A (wd_Pai_canPaint cI cJ cG cZ a0 a0_paint a0_near a0_free a0_uses r0_free v0_items v0_evenly v0_palette v0_share v0_bigger v0_bigNow w0_near w0_uses w0_free) sz) t) (va_A (wd_Pai_canPaint cI cJ cG cZ a0 a0_paint a0_near a0_free a0_uses r0_free v0_items v0_evenly v0_palette v0_share v0_bigger v0_bigNow w0_near w0_uses w0_free) sz)) 0 0 (va_A (wd_Pai_canPaint cI cJ cG cZ a0 a0_paint a0_near a0_free a0_uses r0_free v0_items v0_evenly v0_palette v0_share v0_bigger v0_bigNow w0_near w0_uses w0_free) sz) := by
  refine Met.ofW (cc := prog_5_method_9_code) (maxL := 2) (ret := (some .boolean)) (by decide) rfl ?_
  intro p e s m args below meth c s₁ B hml hv
  obtain ⟨rfl, hsz, hP, hK, hD0, hNw⟩ := hv
  have hx := B.exec
  have hb := B.bytes
  have hr := B.returns
  have htt : ∀ w ∈ gtbl, w.before _ s = true := fun w h => atoms_spec (ws := us_Pai_canPaint) B.pre w (List.mem_cons_of_mem _ h)
  have hown : s.vm.findClass R_Pai = some m.cls := findClass_of_methodNamed B.named
  have hlocks := B.notSynchronized
  subst hsz
  have hD := hD0.self (sz := s.heap.size)
  generalize hAe : va_A (wd_Pai_canPaint cI cJ cG cZ a0 a0_paint a0_near a0_free a0_uses r0_free v0_items v0_evenly v0_palette v0_share v0_bigger v0_bigNow w0_near w0_uses w0_free) s.heap.size = A at hD ⊢
  have hA : ∀ q : Nat, s.heap.size ≤ q → A q := fun q h => by rw [← hAe]; exact Or.inr h
  clear hAe hD0
  have hS : va_S A s.heap s.heap [] := va_S.rf
  have hl := lv_entry ([.ref a0, .int p1]) (n := 2) (Nat.le_of_ble_eq_true rfl)
  rw [lg_entry_eq]
  generalize (lg_sl ([.ref a0, .int p1]) ++ List.replicate (2 - (lg_sl ([.ref a0, .int p1])).length) Slot.unset).toArray = ls at hl ⊢
  have hl : lv_has ls 2 [(0, .ref a0), (1, .int p1)] := hl
  generalize hH : s.heap = H at hP ⊢
  have hS : va_S A s.heap H [] := hH ▸ hS
  generalize hLo : ([] : List Loc) = locs at hS ⊢
  clear hH hLo
  unfold m_Pai_canPaint at hm
  refine lv_aload_n hx hb d_Pai_canPaint_0 rfl (lv_at hl 0 rfl) ?_
  refine lv_iconst (v := 0) hx hb d_Pai_canPaint_1 (by decide) ?_
  refine lv_iload_n hx hb d_Pai_canPaint_2 rfl (lv_at hl 1 rfl) ?_
  obtain ⟨⟨q_1, v0_bigNow_2, w0_uses_3, w0_free_4⟩, hc_5, hm⟩ := gM_e hm
  dsimp only at hm
  have hPc : va_P (dC, dI) vwCl (wd_Pai_paintable cI cJ cG cZ a0 a0_paint a0_near a0_free a0_uses r0_free v0_items v0_evenly v0_palette v0_share v0_bigger v0_bigNow w0_near w0_uses w0_free) H := hP.part [0, 1, 2, 3] rfl
  have hDc : va_D A (wd_Pai_paintable cI cJ cG cZ a0 a0_paint a0_near a0_free a0_uses r0_free v0_items v0_evenly v0_palette v0_share v0_bigger v0_bigNow w0_near w0_uses w0_free) := hD.part [0, 1, 2, 3] (by decide) rfl
  have hFc : ∀ q, va_A (wd_Pai_paintable cI cJ cG cZ a0 a0_paint a0_near a0_free a0_uses r0_free v0_items v0_evenly v0_palette v0_share v0_bigger v0_bigNow w0_near w0_uses w0_free) H.size q → A q := va_freeP hD hS hA [0, 1, 2, 3] rfl
  refine va_calli (va_runV (As := [.int 0, .int p1]) (rest := []) ⟨hx, hb, hml, hown, htt⟩ (c_Pai_paintable l dC dI cI cJ cG cZ a0 a0_paint a0_near a0_free a0_uses r0_free H.size F 18 v0_items v0_evenly v0_palette v0_share v0_bigger v0_bigNow w0_near w0_uses w0_free (0 : Int32) p1 q_1 v0_bigNow_2 w0_uses_3 w0_free_4 hc_5) (cwV 2 htt (gdV kt_310 kt_312 kp_1 kt_3 kt_313) rfl rfl rfl (by decide +kernel) ⟨(Nat.le_of_ble_eq_true rfl), (Nat.le_of_ble_eq_true rfl)⟩) ⟨PcS_blind, va_recv hK hPc (ci := 2) (q0 := 0) rfl rfl, PcS_in hPc hK hDc hNw⟩ rfl rfl hl.1 rfl (lv_room (Nat.le_of_ble_eq_true rfl)) d_Pai_canPaint_3 ⟨Nat.zero_le _, Nat.zero_le _⟩) hS (fun q _ h => hFc q h) hFc (fun r_7 u t H1 locs ht hvm hw hB hz1 hk1 hS => ?_)
  obtain ⟨hP1, hK1, hD1⟩ := hB
  rw [ht] at hP1
  obtain ⟨hw, hz_8⟩ := hw
  subst hw
  obtain ⟨hP, hD⟩ := va_joinP (wr := []) (rx := (we_Pai_paintable cI cJ cG cZ a0 a0_paint a0_near a0_free a0_uses r0_free v0_items v0_evenly v0_palette v0_share v0_bigger v0_bigNow_2 w0_near w0_uses_3 w0_free_4)) hP hD [0, 1, 2, 3] [] rfl rfl (by decide) (by decide) hk1 hFc hP1 hD1
  have hP : va_P (dC, dI) vwCl (wd_Pai_canPaint cI cJ cG cZ a0 a0_paint a0_near a0_free a0_uses r0_free v0_items v0_evenly v0_palette v0_share v0_bigger v0_bigNow_2 w0_near w0_uses_3 w0_free_4) H1 := hP.part [0, 1, 2, 3] rfl
  have hD : va_D A (wd_Pai_canPaint cI cJ cG cZ a0 a0_paint a0_near a0_free a0_uses r0_free v0_items v0_evenly v0_palette v0_share v0_bigger v0_bigNow_2 w0_near w0_uses_3 w0_free_4) := hD.part [0, 1, 2, 3] (by decide) rfl
  clear hP1 hK1 hD1 hk1 hPc hDc hFc ht hvm hz1
  generalize H1 = H at hP hS ⊢
  cases hm
  exact W.zret (ty := .boolean) hx hb hr (bz_nar hz_8) (fun t ht hW => ⟨⟨_, (), rfl, ⟨rfl, hz_8⟩, by rw [ht]; exact hP, va_K.moved hW.alike hK, hD⟩, hS.F ht⟩) hS.2.2 d_Pai_canPaint_6
