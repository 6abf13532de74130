theorem d_Mo_byLists_0 : decode prog_10_method_25_code 0 = .ok (.aload_n 0, 1) := by decide +kernel
theorem d_Mo_byLists_1 : decode prog_10_method_25_code 1 = .ok (.getfield 124, 3) := by decide +kernel
theorem d_Mo_byLists_4 : decode prog_10_method_25_code 4 = .ok (.ifCond .eq 4, 3) := by decide +kernel
theorem d_Mo_byLists_7 : decode prog_10_method_25_code 7 = .ok (.return_, 1) := by decide +kernel
theorem d_Mo_byLists_8 : decode prog_10_method_25_code 8 = .ok (.aload_n 0, 1) := by decide +kernel
theorem d_Mo_byLists_9 : decode prog_10_method_25_code 9 = .ok (.iconst 1, 1) := by decide +kernel
theorem d_Mo_byLists_10 : decode prog_10_method_25_code 10 = .ok (.putfield 124, 3) := by decide +kernel
theorem d_Mo_byLists_13 : decode prog_10_method_25_code 13 = .ok (.aload_n 0, 1) := by decide +kernel
theorem d_Mo_byLists_14 : decode prog_10_method_25_code 14 = .ok (.invokevirtual 127, 3) := by decide +kernel
theorem d_Mo_byLists_17 : decode prog_10_method_25_code 17 = .ok (.iconst 1, 1) := by decide +kernel
theorem d_Mo_byLists_18 : decode prog_10_method_25_code 18 = .ok (.aload_n 0, 1) := by decide +kernel
theorem d_Mo_byLists_19 : decode prog_10_method_25_code 19 = .ok (.getfield 86, 3) := by decide +kernel
theorem d_Mo_byLists_22 : decode prog_10_method_25_code 22 = .ok (.ishl, 1) := by decide +kernel
theorem d_Mo_byLists_23 : decode prog_10_method_25_code 23 = .ok (.iconst 1, 1) := by decide +kernel
theorem d_Mo_byLists_24 : decode prog_10_method_25_code 24 = .ok (.isub, 1) := by decide +kernel
theorem d_Mo_byLists_25 : decode prog_10_method_25_code 25 = .ok (.istore_n 1, 1) := by decide +kernel
theorem d_Mo_byLists_26 : decode prog_10_method_25_code 26 = .ok (.iconst 0, 1) := by decide +kernel
theorem d_Mo_byLists_27 : decode prog_10_method_25_code 27 = .ok (.istore_n 2, 1) := by decide +kernel
theorem d_Mo_byLists_28 : decode prog_10_method_25_code 28 = .ok (.iload_n 2, 1) := by decide +kernel
theorem d_Mo_byLists_29 : decode prog_10_method_25_code 29 = .ok (.iload_n 1, 1) := by decide +kernel
theorem d_Mo_byLists_30 : decode prog_10_method_25_code 30 = .ok (.if_icmp .gt 24, 3) := by decide +kernel
theorem d_Mo_byLists_33 : decode prog_10_method_25_code 33 = .ok (.aload_n 0, 1) := by decide +kernel
theorem d_Mo_byLists_34 : decode prog_10_method_25_code 34 = .ok (.getfield 41, 3) := by decide +kernel
theorem d_Mo_byLists_37 : decode prog_10_method_25_code 37 = .ok (.iload_n 2, 1) := by decide +kernel
theorem d_Mo_byLists_38 : decode prog_10_method_25_code 38 = .ok (.iload_n 2, 1) := by decide +kernel
theorem d_Mo_byLists_39 : decode prog_10_method_25_code 39 = .ok (.ifCond .ne 7, 3) := by decide +kernel
theorem d_Mo_byLists_42 : decode prog_10_method_25_code 42 = .ok (.lconst 1, 1) := by decide +kernel
theorem d_Mo_byLists_43 : decode prog_10_method_25_code 43 = .ok (.goto 4, 3) := by decide +kernel
theorem d_Mo_byLists_46 : decode prog_10_method_25_code 46 = .ok (.lconst 0, 1) := by decide +kernel
theorem d_Mo_byLists_47 : decode prog_10_method_25_code 47 = .ok (.lastore, 1) := by decide +kernel
theorem d_Mo_byLists_48 : decode prog_10_method_25_code 48 = .ok (.iinc 2 1, 3) := by decide +kernel
theorem d_Mo_byLists_51 : decode prog_10_method_25_code 51 = .ok (.goto (-23), 3) := by decide +kernel
theorem d_Mo_byLists_54 : decode prog_10_method_25_code 54 = .ok (.iconst 0, 1) := by decide +kernel
theorem d_Mo_byLists_55 : decode prog_10_method_25_code 55 = .ok (.istore_n 2, 1) := by decide +kernel
theorem d_Mo_byLists_56 : decode prog_10_method_25_code 56 = .ok (.iload_n 2, 1) := by decide +kernel
theorem d_Mo_byLists_57 : decode prog_10_method_25_code 57 = .ok (.bipush 12, 2) := by decide +kernel
theorem d_Mo_byLists_59 : decode prog_10_method_25_code 59 = .ok (.if_icmp .ge 181, 3) := by decide +kernel
theorem d_Mo_byLists_62 : decode prog_10_method_25_code 62 = .ok (.iconst 0, 1) := by decide +kernel
theorem d_Mo_byLists_63 : decode prog_10_method_25_code 63 = .ok (.istore_n 3, 1) := by decide +kernel
theorem d_Mo_byLists_64 : decode prog_10_method_25_code 64 = .ok (.iconst 0, 1) := by decide +kernel
theorem d_Mo_byLists_65 : decode prog_10_method_25_code 65 = .ok (.istore 4, 2) := by decide +kernel
theorem d_Mo_byLists_67 : decode prog_10_method_25_code 67 = .ok (.iload 4, 2) := by decide +kernel
theorem d_Mo_byLists_69 : decode prog_10_method_25_code 69 = .ok (.aload_n 0, 1) := by decide +kernel
theorem d_Mo_byLists_70 : decode prog_10_method_25_code 70 = .ok (.getfield 86, 3) := by decide +kernel
theorem d_Mo_byLists_73 : decode prog_10_method_25_code 73 = .ok (.if_icmp .ge 26, 3) := by decide +kernel
theorem d_Mo_byLists_76 : decode prog_10_method_25_code 76 = .ok (.iload_n 3, 1) := by decide +kernel
theorem d_Mo_byLists_77 : decode prog_10_method_25_code 77 = .ok (.aload_n 0, 1) := by decide +kernel
theorem d_Mo_byLists_78 : decode prog_10_method_25_code 78 = .ok (.getfield 19, 3) := by decide +kernel
theorem d_Mo_byLists_81 : decode prog_10_method_25_code 81 = .ok (.iload 4, 2) := by decide +kernel
theorem d_Mo_byLists_83 : decode prog_10_method_25_code 83 = .ok (.iaload, 1) := by decide +kernel
theorem d_Mo_byLists_84 : decode prog_10_method_25_code 84 = .ok (.iload_n 2, 1) := by decide +kernel
theorem d_Mo_byLists_85 : decode prog_10_method_25_code 85 = .ok (.ishr, 1) := by decide +kernel
theorem d_Mo_byLists_86 : decode prog_10_method_25_code 86 = .ok (.iconst 1, 1) := by decide +kernel
theorem d_Mo_byLists_87 : decode prog_10_method_25_code 87 = .ok (.iand, 1) := by decide +kernel
theorem d_Mo_byLists_88 : decode prog_10_method_25_code 88 = .ok (.iload 4, 2) := by decide +kernel
theorem d_Mo_byLists_90 : decode prog_10_method_25_code 90 = .ok (.ishl, 1) := by decide +kernel
theorem d_Mo_byLists_91 : decode prog_10_method_25_code 91 = .ok (.ior, 1) := by decide +kernel
theorem d_Mo_byLists_92 : decode prog_10_method_25_code 92 = .ok (.istore_n 3, 1) := by decide +kernel
theorem d_Mo_byLists_93 : decode prog_10_method_25_code 93 = .ok (.iinc 4 1, 3) := by decide +kernel
theorem d_Mo_byLists_96 : decode prog_10_method_25_code 96 = .ok (.goto (-29), 3) := by decide +kernel
theorem d_Mo_byLists_99 : decode prog_10_method_25_code 99 = .ok (.iconst 0, 1) := by decide +kernel
theorem d_Mo_byLists_100 : decode prog_10_method_25_code 100 = .ok (.istore 4, 2) := by decide +kernel
theorem d_Mo_byLists_102 : decode prog_10_method_25_code 102 = .ok (.iload 4, 2) := by decide +kernel
theorem d_Mo_byLists_104 : decode prog_10_method_25_code 104 = .ok (.iload_n 1, 1) := by decide +kernel
theorem d_Mo_byLists_105 : decode prog_10_method_25_code 105 = .ok (.if_icmp .gt 96, 3) := by decide +kernel
theorem d_Mo_byLists_108 : decode prog_10_method_25_code 108 = .ok (.iload_n 3, 1) := by decide +kernel
theorem d_Mo_byLists_109 : decode prog_10_method_25_code 109 = .ok (.ifCond .eq 92, 3) := by decide +kernel
theorem d_Mo_byLists_112 : decode prog_10_method_25_code 112 = .ok (.lconst 0, 1) := by decide +kernel
theorem d_Mo_byLists_113 : decode prog_10_method_25_code 113 = .ok (.lstore 5, 2) := by decide +kernel
theorem d_Mo_byLists_115 : decode prog_10_method_25_code 115 = .ok (.iload 4, 2) := by decide +kernel
theorem d_Mo_byLists_117 : decode prog_10_method_25_code 117 = .ok (.iload_n 3, 1) := by decide +kernel
theorem d_Mo_byLists_118 : decode prog_10_method_25_code 118 = .ok (.iand, 1) := by decide +kernel
theorem d_Mo_byLists_119 : decode prog_10_method_25_code 119 = .ok (.istore 7, 2) := by decide +kernel
theorem d_Mo_byLists_121 : decode prog_10_method_25_code 121 = .ok (.iload 7, 2) := by decide +kernel
theorem d_Mo_byLists_123 : decode prog_10_method_25_code 123 = .ok (.istore 8, 2) := by decide +kernel
theorem d_Mo_byLists_125 : decode prog_10_method_25_code 125 = .ok (.iconst 1, 1) := by decide +kernel
theorem d_Mo_byLists_126 : decode prog_10_method_25_code 126 = .ok (.istore 9, 2) := by decide +kernel
theorem d_Mo_byLists_128 : decode prog_10_method_25_code 128 = .ok (.iload 9, 2) := by decide +kernel
theorem d_Mo_byLists_130 : decode prog_10_method_25_code 130 = .ok (.ifCond .eq 56, 3) := by decide +kernel
theorem d_Mo_byLists_133 : decode prog_10_method_25_code 133 = .ok (.lload 5, 2) := by decide +kernel
theorem d_Mo_byLists_135 : decode prog_10_method_25_code 135 = .ok (.aload_n 0, 1) := by decide +kernel
theorem d_Mo_byLists_136 : decode prog_10_method_25_code 136 = .ok (.getfield 37, 3) := by decide +kernel
theorem d_Mo_byLists_139 : decode prog_10_method_25_code 139 = .ok (.iload 8, 2) := by decide +kernel
theorem d_Mo_byLists_141 : decode prog_10_method_25_code 141 = .ok (.baload, 1) := by decide +kernel
theorem d_Mo_byLists_142 : decode prog_10_method_25_code 142 = .ok (.ifCond .eq 16, 3) := by decide +kernel
theorem d_Mo_byLists_145 : decode prog_10_method_25_code 145 = .ok (.aload_n 0, 1) := by decide +kernel
theorem d_Mo_byLists_146 : decode prog_10_method_25_code 146 = .ok (.getfield 41, 3) := by decide +kernel
theorem d_Mo_byLists_149 : decode prog_10_method_25_code 149 = .ok (.iload 4, 2) := by decide +kernel
theorem d_Mo_byLists_151 : decode prog_10_method_25_code 151 = .ok (.iload 8, 2) := by decide +kernel
theorem d_Mo_byLists_153 : decode prog_10_method_25_code 153 = .ok (.ixor, 1) := by decide +kernel
theorem d_Mo_byLists_154 : decode prog_10_method_25_code 154 = .ok (.laload, 1) := by decide +kernel
theorem d_Mo_byLists_155 : decode prog_10_method_25_code 155 = .ok (.goto 4, 3) := by decide +kernel
theorem d_Mo_byLists_158 : decode prog_10_method_25_code 158 = .ok (.lconst 0, 1) := by decide +kernel
theorem d_Mo_byLists_159 : decode prog_10_method_25_code 159 = .ok (.ladd, 1) := by decide +kernel
theorem d_Mo_byLists_160 : decode prog_10_method_25_code 160 = .ok (.lstore 5, 2) := by decide +kernel
theorem d_Mo_byLists_162 : decode prog_10_method_25_code 162 = .ok (.iload 8, 2) := by decide +kernel
theorem d_Mo_byLists_164 : decode prog_10_method_25_code 164 = .ok (.ifCond .le 7, 3) := by decide +kernel
theorem d_Mo_byLists_167 : decode prog_10_method_25_code 167 = .ok (.iconst 1, 1) := by decide +kernel
theorem d_Mo_byLists_168 : decode prog_10_method_25_code 168 = .ok (.goto 4, 3) := by decide +kernel
theorem d_Mo_byLists_171 : decode prog_10_method_25_code 171 = .ok (.iconst 0, 1) := by decide +kernel
theorem d_Mo_byLists_172 : decode prog_10_method_25_code 172 = .ok (.istore 9, 2) := by decide +kernel
theorem d_Mo_byLists_174 : decode prog_10_method_25_code 174 = .ok (.iload 8, 2) := by decide +kernel
theorem d_Mo_byLists_176 : decode prog_10_method_25_code 176 = .ok (.iconst 1, 1) := by decide +kernel
theorem d_Mo_byLists_177 : decode prog_10_method_25_code 177 = .ok (.isub, 1) := by decide +kernel
theorem d_Mo_byLists_178 : decode prog_10_method_25_code 178 = .ok (.iload 7, 2) := by decide +kernel
theorem d_Mo_byLists_180 : decode prog_10_method_25_code 180 = .ok (.iand, 1) := by decide +kernel
theorem d_Mo_byLists_181 : decode prog_10_method_25_code 181 = .ok (.istore 8, 2) := by decide +kernel
theorem d_Mo_byLists_183 : decode prog_10_method_25_code 183 = .ok (.goto (-55), 3) := by decide +kernel
theorem d_Mo_byLists_186 : decode prog_10_method_25_code 186 = .ok (.aload_n 0, 1) := by decide +kernel
theorem d_Mo_byLists_187 : decode prog_10_method_25_code 187 = .ok (.getfield 45, 3) := by decide +kernel
theorem d_Mo_byLists_190 : decode prog_10_method_25_code 190 = .ok (.iload 4, 2) := by decide +kernel
theorem d_Mo_byLists_192 : decode prog_10_method_25_code 192 = .ok (.lload 5, 2) := by decide +kernel
theorem d_Mo_byLists_194 : decode prog_10_method_25_code 194 = .ok (.lastore, 1) := by decide +kernel
theorem d_Mo_byLists_195 : decode prog_10_method_25_code 195 = .ok (.iinc 4 1, 3) := by decide +kernel
theorem d_Mo_byLists_198 : decode prog_10_method_25_code 198 = .ok (.goto (-96), 3) := by decide +kernel
theorem d_Mo_byLists_201 : decode prog_10_method_25_code 201 = .ok (.iconst 0, 1) := by decide +kernel
theorem d_Mo_byLists_202 : decode prog_10_method_25_code 202 = .ok (.istore 4, 2) := by decide +kernel
theorem d_Mo_byLists_204 : decode prog_10_method_25_code 204 = .ok (.iload 4, 2) := by decide +kernel
theorem d_Mo_byLists_206 : decode prog_10_method_25_code 206 = .ok (.iload_n 1, 1) := by decide +kernel
theorem d_Mo_byLists_207 : decode prog_10_method_25_code 207 = .ok (.if_icmp .gt 27, 3) := by decide +kernel
theorem d_Mo_byLists_210 : decode prog_10_method_25_code 210 = .ok (.iload_n 3, 1) := by decide +kernel
theorem d_Mo_byLists_211 : decode prog_10_method_25_code 211 = .ok (.ifCond .eq 23, 3) := by decide +kernel
theorem d_Mo_byLists_214 : decode prog_10_method_25_code 214 = .ok (.aload_n 0, 1) := by decide +kernel
theorem d_Mo_byLists_215 : decode prog_10_method_25_code 215 = .ok (.getfield 41, 3) := by decide +kernel
theorem d_Mo_byLists_218 : decode prog_10_method_25_code 218 = .ok (.iload 4, 2) := by decide +kernel
theorem d_Mo_byLists_220 : decode prog_10_method_25_code 220 = .ok (.aload_n 0, 1) := by decide +kernel
theorem d_Mo_byLists_221 : decode prog_10_method_25_code 221 = .ok (.getfield 45, 3) := by decide +kernel
theorem d_Mo_byLists_224 : decode prog_10_method_25_code 224 = .ok (.iload 4, 2) := by decide +kernel
theorem d_Mo_byLists_226 : decode prog_10_method_25_code 226 = .ok (.laload, 1) := by decide +kernel
theorem d_Mo_byLists_227 : decode prog_10_method_25_code 227 = .ok (.lastore, 1) := by decide +kernel
theorem d_Mo_byLists_228 : decode prog_10_method_25_code 228 = .ok (.iinc 4 1, 3) := by decide +kernel
theorem d_Mo_byLists_231 : decode prog_10_method_25_code 231 = .ok (.goto (-27), 3) := by decide +kernel
theorem d_Mo_byLists_234 : decode prog_10_method_25_code 234 = .ok (.iinc 2 1, 3) := by decide +kernel
theorem d_Mo_byLists_237 : decode prog_10_method_25_code 237 = .ok (.goto (-181), 3) := by decide +kernel
theorem d_Mo_byLists_240 : decode prog_10_method_25_code 240 = .ok (.return_, 1) := by decide +kernel
abbrev wd_Mo_byLists (cI cJ cG cZ : ClassId) (a0 a0_from a0_to a0_near a0_lists a0_colours a0_shades a0_tints a0_attempt a0_taken a0_isApart a0_ways a0_next a0_splits a0_powers a0_row a0_many a0_can a0_could a0_arcRow a0_order a0_isOut : Nat) (v0_thrown : Int32) (v0_nodes : Int32) (v0_arcs : Int32) (v0_takenMany : Int32) (v0_leftBits : Int32) (v0_hasPolynomial : Int32) (v0_hasLists : Int32) (w0_near : Nat → Int32) (w0_lists : Nat → Int32) (w0_isApart : Nat → Int32) (w0_ways : Nat → Int64) (w0_next : Nat → Int64) : va_W := [(a0, .inr (8, [.int v0_thrown, .int v0_nodes, .int v0_arcs, .ref a0_from, .ref a0_to, .ref a0_near, .ref a0_lists, .ref a0_colours, .ref a0_shades, .ref a0_tints, .ref a0_attempt, .int v0_takenMany, .ref a0_taken, .int v0_leftBits, .ref a0_isApart, .ref a0_ways, .ref a0_next, .ref a0_splits, .ref a0_powers, .ref a0_row, .ref a0_many, .int v0_hasPolynomial, .int v0_hasLists, .ref a0_can, .ref a0_could, .ref a0_arcRow, .ref a0_order, .ref a0_isOut])), (a0_near, .inl (cI, 12, .inl w0_near)), (a0_lists, .inl (cI, 12, .inl w0_lists)), (a0_isApart, .inl (cZ, 4096, .inl w0_isApart)), (a0_ways, .inl (cJ, 4096, .inr (.inl w0_ways))), (a0_next, .inl (cJ, 4096, .inr (.inl w0_next)))]
abbrev us_Mo_byLists : List Cond := .code y_Mo_byLists prog_10_method_25_code 10 none :: gtbl
abbrev rm_Mo_byLists : Room := { frames := 1, cells := 0, slots := 0, locals := 23 }
def m_Mo_byLists (F : Nat) (v0_thrown : Int32) (v0_nodes : Int32) (v0_arcs : Int32) (v0_takenMany : Int32) (v0_leftBits : Int32) (v0_hasPolynomial : Int32) (v0_hasLists : Int32) (w0_near : Nat → Int32) (w0_lists : Nat → Int32) (w0_isApart : Nat → Int32) (w0_ways : Nat → Int64) (w0_next : Nat → Int64) : Option (Int32 × (Nat → Int32) × (Nat → Int64) × (Nat → Int64)) :=
  if v0_hasLists = 0 then (
    gM (m_Mo_sets F v0_thrown v0_nodes v0_arcs v0_takenMany v0_leftBits v0_hasPolynomial 1 w0_near w0_isApart) (fun w0_isApart_2 =>
    gB (((1 : Int32) <<< (v0_nodes &&& 31)) - 1) (fun x1_4 =>
    gL (fun (k_28 : (Int32 × (Nat → Int64)) → Option (Int32 × (Nat → Int32) × (Nat → Int64) × (Nat → Int64))) (z_28 : Int32 × (Nat → Int64)) => match z_28 with
    | (x2_5, w0_ways_6) =>
    if x1_4 < x2_5 then (
      gL (fun (k_56 : (Int32 × (Nat → Int64) × (Nat → Int64)) → Option (Int32 × (Nat → Int32) × (Nat → Int64) × (Nat → Int64))) (z_56 : Int32 × (Nat → Int64) × (Nat → Int64)) => match z_56 with
      | (x2_8, w0_ways_9, w0_next_10) =>
      if (12 : Int32) ≤ x2_8 then (
        some (1, w0_isApart_2, w0_ways_9, w0_next_10)
      ) else (
        gL (fun (k_67 : (Int32 × Int32) → Option (Int32 × (Nat → Int32) × (Nat → Int64) × (Nat → Int64))) (z_67 : Int32 × Int32) => match z_67 with
        | (x3_12, x4_13) =>
        if v0_nodes ≤ x4_13 then (
          gL (fun (k_102 : (Int32 × (Nat → Int64)) → Option (Int32 × (Nat → Int32) × (Nat → Int64) × (Nat → Int64))) (z_102 : Int32 × (Nat → Int64)) => match z_102 with
          | (x4_15, w0_next_16) =>
          gB (α := Option (Int32 × (Nat → Int32) × (Nat → Int64) × (Nat → Int64))) (
            gL (fun (k_204 : (Int32 × (Nat → Int64)) → Option (Int32 × (Nat → Int32) × (Nat → Int64) × (Nat → Int64))) (z_204 : Int32 × (Nat → Int64)) => match z_204 with
            | (x4_17, w0_ways_18) =>
            if x1_4 < x4_17 then (
              gB (x2_8 + 1) (fun x2_20 =>
              k_56 (x2_20, w0_ways_18, w0_next_16))
            ) else (
              if x3_12 = 0 then (
                gB (x2_8 + 1) (fun x2_22 =>
                k_56 (x2_22, w0_ways_18, w0_next_16))
              ) else (
                gC (inb x4_17 4096) (
                gC (inb x4_17 4096) (
                gB (x4_17 + 1) (fun x4_25 =>
                k_204 (x4_25, vp_updL w0_ways_18 x4_17.toNatClampNeg (w0_next_16 x4_17.toNatClampNeg)))))
              )
            )
            ) F (0, w0_ways_9)
          ) (fun J_201 =>
          if x1_4 < x4_15 then (
            J_201
          ) else (
            if x3_12 = 0 then (
              J_201
            ) else (
              gB (x4_15 &&& x3_12) (fun x7_28 =>
              gL (fun (k_128 : (Int64 × Int32 × Int32) → Option (Int32 × (Nat → Int32) × (Nat → Int64) × (Nat → Int64))) (z_128 : Int64 × Int32 × Int32) => match z_128 with
              | (x5_29, x8_30, x9_31) =>
              if x9_31 = 0 then (
                gC (inb x4_15 4096) (
                gB (x4_15 + 1) (fun x4_34 =>
                k_102 (x4_34, vp_updL w0_next_16 x4_15.toNatClampNeg x5_29)))
              ) else (
                gC (inb x8_30 4096) (
                gB (α := Int64 → Option (Int32 × (Nat → Int32) × (Nat → Int64) × (Nat → Int64))) (fun s_36 =>
                  gB (x5_29 + s_36) (fun x5_37 =>
                  gB (α := Int32 → Option (Int32 × (Nat → Int32) × (Nat → Int64) × (Nat → Int64))) (fun s_38 =>
                    gB ((x8_30 - 1) &&& x7_28) (fun x8_39 =>
                    k_128 (x5_37, x8_39, s_38))
                  ) (fun J_172 =>
                  if x8_30 ≤ 0 then (
                    J_172 0
                  ) else (
                    J_172 1
                  )
                  ))
                ) (fun J_159 =>
                if (w0_isApart_2 x8_30.toNatClampNeg) = 0 then (
                  J_159 0
                ) else (
                  gC (inb (x4_15 ^^^ x8_30) 4096) (
                  J_159 (w0_ways_9 (x4_15 ^^^ x8_30).toNatClampNeg))
                )
                ))
              )
              ) F (0, x7_28, 1))
            )
          )
          )
          ) F (0, w0_next_10)
        ) else (
          gC (inb x4_13 12) (
          gB (x3_12 ||| ((((w0_lists x4_13.toNatClampNeg) >>> (x2_8 &&& 31)) &&& 1) <<< (x4_13 &&& 31))) (fun x3_44 =>
          gB (x4_13 + 1) (fun x4_45 =>
          k_67 (x3_44, x4_45))))
        )
        ) F (0, 0)
      )
      ) F (0, w0_ways_6, w0_next)
    ) else (
      gB (α := Int64 → Option (Int32 × (Nat → Int32) × (Nat → Int64) × (Nat → Int64))) (fun s_46 =>
        gC (inb x2_5 4096) (
        gB (x2_5 + 1) (fun x2_48 =>
        k_28 (x2_48, vp_updL w0_ways_6 x2_5.toNatClampNeg s_46)))
      ) (fun J_47 =>
      if x2_5 = 0 then (
        J_47 1
      ) else (
        J_47 0
      )
      )
    )
    ) F (0, w0_ways)))
  ) else (
    some (v0_hasLists, w0_isApart, w0_ways, w0_next)
  )
set_option maxHeartbeats 4000000 in
set_option maxRecDepth 100000 in
theorem c_Mo_byLists (l : Launch) (dC : Nat → ClassId) (dI : Nat → Nat → Nat) (cI cJ cG cZ : ClassId) (a0 a0_from a0_to a0_near a0_lists a0_colours a0_shades a0_tints a0_attempt a0_taken a0_isApart a0_ways a0_next a0_splits a0_powers a0_row a0_many a0_can a0_could a0_arcRow a0_order a0_isOut : Nat) (sz : Nat) (F : Nat) (v0_thrown : Int32) (v0_nodes : Int32) (v0_arcs : Int32) (v0_takenMany : Int32) (v0_leftBits : Int32) (v0_hasPolynomial : Int32) (v0_hasLists : Int32) (w0_near : Nat → Int32) (w0_lists : Nat → Int32) (w0_isApart : Nat → Int32) (w0_ways : Nat → Int64) (w0_next : Nat → Int64) (o_v0_hasLists : Int32) (o_w0_isApart : Nat → Int32) (o_w0_ways : Nat → Int64) (o_w0_next : Nat → Int64) (hm : m_Mo_byLists F v0_thrown v0_nodes v0_arcs v0_takenMany v0_leftBits v0_hasPolynomial v0_hasLists w0_near w0_lists w0_isApart w0_ways w0_next = some (o_v0_hasLists, o_w0_isApart, o_w0_ways, o_w0_next)) : Met l y_Mo_byLists us_Mo_byLists rm_Mo_byLists (PcS (dC, dI) (tyL cI cJ cG cZ) [.ref a0] sz (wd_Mo_byLists cI cJ cG cZ a0 a0_from a0_to a0_near a0_lists a0_colours a0_shades a0_tints a0_attempt a0_taken a0_isApart a0_ways a0_next a0_splits a0_powers a0_row a0_many a0_can a0_could a0_arcRow a0_order a0_isOut v0_thrown v0_nodes v0_arcs v0_takenMany v0_leftBits v0_hasPolynomial v0_hasLists w0_near w0_lists w0_isApart w0_ways w0_next)) (va_Qv (fun (_ : Unit) => True) (fun _ t => PoS (dC, dI) (tyL cI cJ cG cZ) (wd_Mo_byLists cI cJ cG cZ a0 a0_from a0_to a0_near a0_lists a0_colours a0_shades a0_tints a0_attempt a0_taken a0_isApart a0_ways a0_next a0_splits a0_powers a0_row a0_many a0_can a0_could a0_arcRow a0_order a0_isOut v0_thrown v0_nodes v0_arcs v0_takenMany v0_leftBits v0_hasPolynomial o_v0_hasLists w0_near w0_lists o_w0_isApart o_w0_ways o_w0_next) (va_A (wd_Mo_byLists cI cJ cG cZ a0 a0_from a0_to a0_near a0_lists a0_colours a0_shades a0_tints a0_attempt a0_taken a0_isApart a0_ways a0_next a0_splits a0_powers a0_row a0_many a0_can a0_could a0_arcRow a0_order a0_isOut v0_thrown v0_nodes v0_arcs v0_takenMany v0_leftBits v0_hasPolynomial v0_hasLists w0_near w0_lists w0_isApart w0_ways w0_next) sz) t) (va_A (wd_Mo_byLists cI cJ cG cZ a0 a0_from a0_to a0_near a0_lists a0_colours a0_shades a0_tints a0_attempt a0_taken a0_isApart a0_ways a0_next a0_splits a0_powers a0_row a0_many a0_can a0_could a0_arcRow a0_order a0_isOut v0_thrown v0_nodes v0_arcs v0_takenMany v0_leftBits v0_hasPolynomial v0_hasLists w0_near w0_lists w0_isApart w0_ways w0_next) sz)) 0 0 (va_A (wd_Mo_byLists cI cJ cG cZ a0 a0_from a0_to a0_near a0_lists a0_colours a0_shades a0_tints a0_attempt a0_taken a0_isApart a0_ways a0_next a0_splits a0_powers a0_row a0_many a0_can a0_could a0_arcRow a0_order a0_isOut v0_thrown v0_nodes v0_arcs v0_takenMany v0_leftBits v0_hasPolynomial v0_hasLists w0_near w0_lists w0_isApart w0_ways w0_next) sz) := by
  refine Met.ofW (cc := prog_10_method_25_code) (maxL := 10) (ret := none) (by decide) rfl ?_
  intro p e s m args below meth c s₁ B hml hv
  obtain ⟨rfl, hsz, hP, hK, hD0, hNw⟩ := hv
  have hx := B.exec
  have hb := B.bytes
  have hr := B.returns
  have htt : ∀ w ∈ gtbl, w.before _ s = true := fun w h => atoms_spec (ws := us_Mo_byLists) B.pre w (List.mem_cons_of_mem _ h)
  have hown : s.vm.findClass R_Mo = some m.cls := findClass_of_methodNamed B.named
  have hlocks := B.notSynchronized
  subst hsz
  have hD := hD0.self (sz := s.heap.size)
  generalize hAe : va_A (wd_Mo_byLists cI cJ cG cZ a0 a0_from a0_to a0_near a0_lists a0_colours a0_shades a0_tints a0_attempt a0_taken a0_isApart a0_ways a0_next a0_splits a0_powers a0_row a0_many a0_can a0_could a0_arcRow a0_order a0_isOut v0_thrown v0_nodes v0_arcs v0_takenMany v0_leftBits v0_hasPolynomial v0_hasLists w0_near w0_lists w0_isApart w0_ways w0_next) s.heap.size = A at hD ⊢
  have hA : ∀ q : Nat, s.heap.size ≤ q → A q := fun q h => by rw [← hAe]; exact Or.inr h
  clear hAe hD0
  have hS : va_S A s.heap s.heap [] := va_S.rf
  have hl := lv_entry ([.ref a0]) (n := 10) (Nat.le_of_ble_eq_true rfl)
  rw [lg_entry_eq]
  generalize (lg_sl ([.ref a0]) ++ List.replicate (10 - (lg_sl ([.ref a0])).length) Slot.unset).toArray = ls at hl ⊢
  have hl : lv_has ls 10 [(0, .ref a0)] := hl
  generalize hH : s.heap = H at hP ⊢
  have hS : va_S A s.heap H [] := hH ▸ hS
  generalize hLo : ([] : List Loc) = locs at hS ⊢
  clear hH hLo
  unfold m_Mo_byLists at hm
  refine lv_aload_n hx hb d_Mo_byLists_0 rfl (lv_at hl 0 rfl) ?_
  refine va_get (D := (dC, dI)) (ci := 8) (v := .int v0_hasLists) (C := R_Mo) (T := T_Mo) (N := 28) hx hb htt hin_Mo hown hK hP 0 rfl rfl 22 (by decide) (htt _ kt_791) (fun _ h9 => h9) rfl d_Mo_byLists_1 ?_
  refine lv_if_eq (tgt := 8) hx hb d_Mo_byLists_4 (by decide) (fun c_1 => ?_) (fun c_1 => ?_)
  · have hm := ite_t c_1 hm
    refine lv_aload_n hx hb d_Mo_byLists_8 rfl (lv_at hl 0 rfl) ?_
    refine lv_iconst (v := 1) hx hb d_Mo_byLists_9 (by decide) ?_
    refine va_put (D := (dC, dI)) (ci := 8) (v := .int 1) (ty := .boolean) (C := R_Mo) (T := T_Mo) (N := 28) hx hb htt hin_Mo ty_Mo tyok_Mo nm_Mo hown hK hP hD hS 0 rfl rfl 22 (by decide) (htt _ kt_791) (fun _ h9 => h9) rfl (by decide +kernel) rfl (by decide) (Nat.le_of_ble_eq_true rfl) d_Mo_byLists_10 (fun H locs hP hD hS => ?_)
    have hP : va_P (dC, dI) vwCl (wd_Mo_byLists cI cJ cG cZ a0 a0_from a0_to a0_near a0_lists a0_colours a0_shades a0_tints a0_attempt a0_taken a0_isApart a0_ways a0_next a0_splits a0_powers a0_row a0_many a0_can a0_could a0_arcRow a0_order a0_isOut v0_thrown v0_nodes v0_arcs v0_takenMany v0_leftBits v0_hasPolynomial 1 w0_near w0_lists w0_isApart w0_ways w0_next) H := hP
    have hD : va_D A (wd_Mo_byLists cI cJ cG cZ a0 a0_from a0_to a0_near a0_lists a0_colours a0_shades a0_tints a0_attempt a0_taken a0_isApart a0_ways a0_next a0_splits a0_powers a0_row a0_many a0_can a0_could a0_arcRow a0_order a0_isOut v0_thrown v0_nodes v0_arcs v0_takenMany v0_leftBits v0_hasPolynomial 1 w0_near w0_lists w0_isApart w0_ways w0_next) := hD
    refine lv_aload_n hx hb d_Mo_byLists_13 rfl (lv_at hl 0 rfl) ?_
    obtain ⟨w0_isApart_2, hc_3, hm⟩ := gM_e hm
    have hPc : va_P (dC, dI) vwCl (wd_Mo_sets cI cJ cG cZ a0 a0_from a0_to a0_near a0_lists a0_colours a0_shades a0_tints a0_attempt a0_taken a0_isApart a0_ways a0_next a0_splits a0_powers a0_row a0_many a0_can a0_could a0_arcRow a0_order a0_isOut v0_thrown v0_nodes v0_arcs v0_takenMany v0_leftBits v0_hasPolynomial 1 w0_near w0_isApart) H := hP.sub [0, 1, 3] rfl
    have hDc : va_D A (wd_Mo_sets cI cJ cG cZ a0 a0_from a0_to a0_near a0_lists a0_colours a0_shades a0_tints a0_attempt a0_taken a0_isApart a0_ways a0_next a0_splits a0_powers a0_row a0_many a0_can a0_could a0_arcRow a0_order a0_isOut v0_thrown v0_nodes v0_arcs v0_takenMany v0_leftBits v0_hasPolynomial 1 w0_near w0_isApart) := hD.sub [0, 1, 3] (by decide) rfl
    have hFc : ∀ q, va_A (wd_Mo_sets cI cJ cG cZ a0 a0_from a0_to a0_near a0_lists a0_colours a0_shades a0_tints a0_attempt a0_taken a0_isApart a0_ways a0_next a0_splits a0_powers a0_row a0_many a0_can a0_could a0_arcRow a0_order a0_isOut v0_thrown v0_nodes v0_arcs v0_takenMany v0_leftBits v0_hasPolynomial 1 w0_near w0_isApart) H.size q → A q := va_free hD hS hA [0, 1, 3] rfl
    refine va_callv (va_runV (As := []) (rest := []) ⟨hx, hb, hml, hown, htt⟩ (c_Mo_sets l dC dI cI cJ cG cZ a0 a0_from a0_to a0_near a0_lists a0_colours a0_shades a0_tints a0_attempt a0_taken a0_isApart a0_ways a0_next a0_splits a0_powers a0_row a0_many a0_can a0_could a0_arcRow a0_order a0_isOut H.size F v0_thrown v0_nodes v0_arcs v0_takenMany v0_leftBits v0_hasPolynomial 1 w0_near w0_isApart w0_isApart_2 hc_3) (cwV 0 htt (gdV kt_916 kt_918 kp_50 kt_10 kt_919) rfl rfl rfl (by decide +kernel) ⟨(Nat.le_of_ble_eq_true rfl), (Nat.le_of_ble_eq_true rfl)⟩) ⟨PcS_blind, va_recv hK hPc (ci := 8) (q0 := 0) rfl rfl, PcS_in hPc hK hDc hNw⟩ rfl rfl hl.1 rfl (lv_room (Nat.le_of_ble_eq_true rfl)) d_Mo_byLists_14 ⟨Nat.zero_le _, Nat.zero_le _⟩) hS (fun q _ h => hFc q h) hFc (fun u t H1 locs ht hvm hw hB hz1 hk1 hS => ?_)
    obtain ⟨hP1, hK1, hD1⟩ := hB
    rw [ht] at hP1
    obtain ⟨hP, hD⟩ := va_join (wr := [(a0_lists, .inl (cI, 12, .inl w0_lists)), (a0_ways, .inl (cJ, 4096, .inr (.inl w0_ways))), (a0_next, .inl (cJ, 4096, .inr (.inl w0_next)))]) (w1 := (wd_Mo_sets cI cJ cG cZ a0 a0_from a0_to a0_near a0_lists a0_colours a0_shades a0_tints a0_attempt a0_taken a0_isApart a0_ways a0_next a0_splits a0_powers a0_row a0_many a0_can a0_could a0_arcRow a0_order a0_isOut v0_thrown v0_nodes v0_arcs v0_takenMany v0_leftBits v0_hasPolynomial 1 w0_near w0_isApart_2)) hP hD [0, 1, 3] [2, 4, 5] rfl rfl (by decide) (by decide) hk1 hFc hP1 hD1
    have hP : va_P (dC, dI) vwCl (wd_Mo_byLists cI cJ cG cZ a0 a0_from a0_to a0_near a0_lists a0_colours a0_shades a0_tints a0_attempt a0_taken a0_isApart a0_ways a0_next a0_splits a0_powers a0_row a0_many a0_can a0_could a0_arcRow a0_order a0_isOut v0_thrown v0_nodes v0_arcs v0_takenMany v0_leftBits v0_hasPolynomial 1 w0_near w0_lists w0_isApart_2 w0_ways w0_next) H1 := hP.sub [3, 4, 0, 5, 1, 2] rfl
    have hD : va_D A (wd_Mo_byLists cI cJ cG cZ a0 a0_from a0_to a0_near a0_lists a0_colours a0_shades a0_tints a0_attempt a0_taken a0_isApart a0_ways a0_next a0_splits a0_powers a0_row a0_many a0_can a0_could a0_arcRow a0_order a0_isOut v0_thrown v0_nodes v0_arcs v0_takenMany v0_leftBits v0_hasPolynomial 1 w0_near w0_lists w0_isApart_2 w0_ways w0_next) := hD.sub [3, 4, 0, 5, 1, 2] (by decide) rfl
    clear hP1 hK1 hD1 hk1 hPc hDc hFc ht hvm hz1
    generalize H1 = H at hP hS ⊢
    refine lv_iconst (v := 1) hx hb d_Mo_byLists_17 (by decide) ?_
    refine lv_aload_n hx hb d_Mo_byLists_18 rfl (lv_at hl 0 rfl) ?_
    refine va_get (D := (dC, dI)) (ci := 8) (v := .int v0_nodes) (C := R_Mo) (T := T_Mo) (N := 28) hx hb htt hin_Mo hown hK hP 0 rfl rfl 1 (by decide) (htt _ kt_770) (fun _ h9 => h9) rfl d_Mo_byLists_19 ?_
    refine lv_ishl hx hb d_Mo_byLists_22 ?_
    refine lv_iconst (v := 1) hx hb d_Mo_byLists_23 (by decide) ?_
    refine lv_isub hx hb d_Mo_byLists_24 ?_
    refine lv_topi (fun x1_4 ex1_4 => ?_)
    have hm := gB_at ex1_4 hm
    refine lv_istore_n (lv' := [(1, .int x1_4), (0, .ref a0)]) hx hb d_Mo_byLists_25 rfl hl (by decide) rfl (fun ls hl => ?_)
    refine lv_iconst (v := 0) hx hb d_Mo_byLists_26 (by decide) ?_
    refine lv_istore_n (lv' := [(2, .int 0), (1, .int x1_4), (0, .ref a0)]) hx hb d_Mo_byLists_27 rfl hl (by decide) rfl (fun ls hl => ?_)
    refine gL_e (P := (fun (z_28 : Int32 × (Nat → Int64)) => ∀ (x2_5 : Int32), ∀ (w0_ways_6 : Nat → Int64), z_28 = (x2_5, w0_ways_6) → ∀ (ls : Array Slot) (H : Heap) (locs : List Loc), lv_has ls 10 [(0, .ref a0), (1, .int x1_4), (2, .int x2_5)] → va_P (dC, dI) vwCl (wd_Mo_byLists cI cJ cG cZ a0 a0_from a0_to a0_near a0_lists a0_colours a0_shades a0_tints a0_attempt a0_taken a0_isApart a0_ways a0_next a0_splits a0_powers a0_row a0_many a0_can a0_could a0_arcRow a0_order a0_isOut v0_thrown v0_nodes v0_arcs v0_takenMany v0_leftBits v0_hasPolynomial 1 w0_near w0_lists w0_isApart_2 w0_ways_6 w0_next) H → va_D A (wd_Mo_byLists cI cJ cG cZ a0 a0_from a0_to a0_near a0_lists a0_colours a0_shades a0_tints a0_attempt a0_taken a0_isApart a0_ways a0_next a0_splits a0_powers a0_row a0_many a0_can a0_could a0_arcRow a0_order a0_isOut v0_thrown v0_nodes v0_arcs v0_takenMany v0_leftBits v0_hasPolynomial 1 w0_near w0_lists w0_isApart_2 w0_ways_6 w0_next) → va_S A s.heap H locs → W p l e (headSpec us_Mo_byLists rm_Mo_byLists).room s m ([.ref a0] : List Value).toArray below meth c H locs 0 0 (MQ below (va_Qv (fun (_ : Unit) => True) (fun _ t => PoS (dC, dI) (tyL cI cJ cG cZ) (wd_Mo_byLists cI cJ cG cZ a0 a0_from a0_to a0_near a0_lists a0_colours a0_shades a0_tints a0_attempt a0_taken a0_isApart a0_ways a0_next a0_splits a0_powers a0_row a0_many a0_can a0_could a0_arcRow a0_order a0_isOut v0_thrown v0_nodes v0_arcs v0_takenMany v0_leftBits v0_hasPolynomial o_v0_hasLists w0_near w0_lists o_w0_isApart o_w0_ways o_w0_next) A t) A) ([.ref a0] : List Value).toArray s 0 0 A) (F0 m 28 ls []))) hm (fun k_28 z_28 ih_28 hm => ?_) _ _ rfl ls H locs (lv_sub hl [2, 1, 0] rfl) hP hD hS
    intro x2_5 w0_ways_6 hz ls H locs hl hP hD hS
    subst hz
    dsimp only at hm
    refine lv_iload_n hx hb d_Mo_byLists_28 rfl (lv_at hl 2 rfl) ?_
    refine lv_iload_n hx hb d_Mo_byLists_29 rfl (lv_at hl 1 rfl) ?_
    refine lv_icmp_gt (tgt := 54) hx hb d_Mo_byLists_30 (by decide) (fun c_7 => ?_) (fun c_7 => ?_)
    · have hm := ite_t c_7 hm
      refine lv_iconst (v := 0) hx hb d_Mo_byLists_54 (by decide) ?_
      refine lv_istore_n (lv' := [(2, .int 0), (0, .ref a0), (1, .int x1_4)]) hx hb d_Mo_byLists_55 rfl hl (by decide) rfl (fun ls hl => ?_)
      refine gL_e (P := (fun (z_56 : Int32 × (Nat → Int64) × (Nat → Int64)) => ∀ (x2_8 : Int32), ∀ (w0_ways_9 : Nat → Int64), ∀ (w0_next_10 : Nat → Int64), z_56 = (x2_8, w0_ways_9, w0_next_10) → ∀ (ls : Array Slot) (H : Heap) (locs : List Loc), lv_has ls 10 [(0, .ref a0), (1, .int x1_4), (2, .int x2_8)] → va_P (dC, dI) vwCl (wd_Mo_byLists cI cJ cG cZ a0 a0_from a0_to a0_near a0_lists a0_colours a0_shades a0_tints a0_attempt a0_taken a0_isApart a0_ways a0_next a0_splits a0_powers a0_row a0_many a0_can a0_could a0_arcRow a0_order a0_isOut v0_thrown v0_nodes v0_arcs v0_takenMany v0_leftBits v0_hasPolynomial 1 w0_near w0_lists w0_isApart_2 w0_ways_9 w0_next_10) H → va_D A (wd_Mo_byLists cI cJ cG cZ a0 a0_from a0_to a0_near a0_lists a0_colours a0_shades a0_tints a0_attempt a0_taken a0_isApart a0_ways a0_next a0_splits a0_powers a0_row a0_many a0_can a0_could a0_arcRow a0_order a0_isOut v0_thrown v0_nodes v0_arcs v0_takenMany v0_leftBits v0_hasPolynomial 1 w0_near w0_lists w0_isApart_2 w0_ways_9 w0_next_10) → va_S A s.heap H locs → W p l e (headSpec us_Mo_byLists rm_Mo_byLists).room s m ([.ref a0] : List Value).toArray below meth c H locs 0 0 (MQ below (va_Qv (fun (_ : Unit) => True) (fun _ t => PoS (dC, dI) (tyL cI cJ cG cZ) (wd_Mo_byLists cI cJ cG cZ a0 a0_from a0_to a0_near a0_lists a0_colours a0_shades a0_tints a0_attempt a0_taken a0_isApart a0_ways a0_next a0_splits a0_powers a0_row a0_many a0_can a0_could a0_arcRow a0_order a0_isOut v0_thrown v0_nodes v0_arcs v0_takenMany v0_leftBits v0_hasPolynomial o_v0_hasLists w0_near w0_lists o_w0_isApart o_w0_ways o_w0_next) A t) A) ([.ref a0] : List Value).toArray s 0 0 A) (F0 m 56 ls []))) hm (fun k_56 z_56 ih_56 hm => ?_) _ _ _ rfl ls H locs (lv_sub hl [1, 2, 0] rfl) hP hD hS
      intro x2_8 w0_ways_9 w0_next_10 hz ls H locs hl hP hD hS
      subst hz
      dsimp only at hm
      refine lv_iload_n hx hb d_Mo_byLists_56 rfl (lv_at hl 2 rfl) ?_
      refine lv_bipush (v := 12) hx hb d_Mo_byLists_57 (by decide) ?_
      refine lv_icmp_ge (tgt := 240) hx hb d_Mo_byLists_59 (by decide) (fun c_11 => ?_) (fun c_11 => ?_)
      · have hm := ite_t c_11 hm
        cases hm
        exact W.vret hx hb hr (fun t ht hW => ⟨⟨(), rfl, trivial, by rw [ht]; exact hP, va_K.moved hW.alike hK, hD⟩, hS.F ht⟩) hS.2.2 d_Mo_byLists_240
      · have hm := ite_f c_11 hm
        refine lv_iconst (v := 0) hx hb d_Mo_byLists_62 (by decide) ?_
        refine lv_istore_n (lv' := [(3, .int 0), (0, .ref a0), (1, .int x1_4), (2, .int x2_8)]) hx hb d_Mo_byLists_63 rfl hl (by decide) rfl (fun ls hl => ?_)
        refine lv_iconst (v := 0) hx hb d_Mo_byLists_64 (by decide) ?_
        refine lv_istore (lv' := [(4, .int 0), (3, .int 0), (0, .ref a0), (1, .int x1_4), (2, .int x2_8)]) hx hb d_Mo_byLists_65 hl (by decide) rfl (fun ls hl => ?_)
        refine gL_e (P := (fun (z_67 : Int32 × Int32) => ∀ (x3_12 : Int32), ∀ (x4_13 : Int32), z_67 = (x3_12, x4_13) → ∀ (ls : Array Slot) (H : Heap) (locs : List Loc), lv_has ls 10 [(0, .ref a0), (1, .int x1_4), (2, .int x2_8), (3, .int x3_12), (4, .int x4_13)] → va_P (dC, dI) vwCl (wd_Mo_byLists cI cJ cG cZ a0 a0_from a0_to a0_near a0_lists a0_colours a0_shades a0_tints a0_attempt a0_taken a0_isApart a0_ways a0_next a0_splits a0_powers a0_row a0_many a0_can a0_could a0_arcRow a0_order a0_isOut v0_thrown v0_nodes v0_arcs v0_takenMany v0_leftBits v0_hasPolynomial 1 w0_near w0_lists w0_isApart_2 w0_ways_9 w0_next_10) H → va_D A (wd_Mo_byLists cI cJ cG cZ a0 a0_from a0_to a0_near a0_lists a0_colours a0_shades a0_tints a0_attempt a0_taken a0_isApart a0_ways a0_next a0_splits a0_powers a0_row a0_many a0_can a0_could a0_arcRow a0_order a0_isOut v0_thrown v0_nodes v0_arcs v0_takenMany v0_leftBits v0_hasPolynomial 1 w0_near w0_lists w0_isApart_2 w0_ways_9 w0_next_10) → va_S A s.heap H locs → W p l e (headSpec us_Mo_byLists rm_Mo_byLists).room s m ([.ref a0] : List Value).toArray below meth c H locs 0 0 (MQ below (va_Qv (fun (_ : Unit) => True) (fun _ t => PoS (dC, dI) (tyL cI cJ cG cZ) (wd_Mo_byLists cI cJ cG cZ a0 a0_from a0_to a0_near a0_lists a0_colours a0_shades a0_tints a0_attempt a0_taken a0_isApart a0_ways a0_next a0_splits a0_powers a0_row a0_many a0_can a0_could a0_arcRow a0_order a0_isOut v0_thrown v0_nodes v0_arcs v0_takenMany v0_leftBits v0_hasPolynomial o_v0_hasLists w0_near w0_lists o_w0_isApart o_w0_ways o_w0_next) A t) A) ([.ref a0] : List Value).toArray s 0 0 A) (F0 m 67 ls []))) hm (fun k_67 z_67 ih_67 hm => ?_) _ _ rfl ls H locs (lv_sub hl [2, 3, 4, 1, 0] rfl) hP hD hS
        intro x3_12 x4_13 hz ls H locs hl hP hD hS
        subst hz
        dsimp only at hm
        refine lv_iload hx hb d_Mo_byLists_67 (lv_at hl 4 rfl) ?_
        refine lv_aload_n hx hb d_Mo_byLists_69 rfl (lv_at hl 0 rfl) ?_
        refine va_get (D := (dC, dI)) (ci := 8) (v := .int v0_nodes) (C := R_Mo) (T := T_Mo) (N := 28) hx hb htt hin_Mo hown hK hP 0 rfl rfl 1 (by decide) (htt _ kt_770) (fun _ h9 => h9) rfl d_Mo_byLists_70 ?_
        refine lv_icmp_ge (tgt := 99) hx hb d_Mo_byLists_73 (by decide) (fun c_14 => ?_) (fun c_14 => ?_)
        · have hm := ite_t c_14 hm
          refine lv_iconst (v := 0) hx hb d_Mo_byLists_99 (by decide) ?_
          refine lv_istore (lv' := [(4, .int 0), (0, .ref a0), (1, .int x1_4), (2, .int x2_8), (3, .int x3_12)]) hx hb d_Mo_byLists_100 hl (by decide) rfl (fun ls hl => ?_)
          refine gL_e (P := (fun (z_102 : Int32 × (Nat → Int64)) => ∀ (x4_15 : Int32), ∀ (w0_next_16 : Nat → Int64), z_102 = (x4_15, w0_next_16) → ∀ (ls : Array Slot) (H : Heap) (locs : List Loc), lv_has ls 10 [(0, .ref a0), (1, .int x1_4), (2, .int x2_8), (3, .int x3_12), (4, .int x4_15)] → va_P (dC, dI) vwCl (wd_Mo_byLists cI cJ cG cZ a0 a0_from a0_to a0_near a0_lists a0_colours a0_shades a0_tints a0_attempt a0_taken a0_isApart a0_ways a0_next a0_splits a0_powers a0_row a0_many a0_can a0_could a0_arcRow a0_order a0_isOut v0_thrown v0_nodes v0_arcs v0_takenMany v0_leftBits v0_hasPolynomial 1 w0_near w0_lists w0_isApart_2 w0_ways_9 w0_next_16) H → va_D A (wd_Mo_byLists cI cJ cG cZ a0 a0_from a0_to a0_near a0_lists a0_colours a0_shades a0_tints a0_attempt a0_taken a0_isApart a0_ways a0_next a0_splits a0_powers a0_row a0_many a0_can a0_could a0_arcRow a0_order a0_isOut v0_thrown v0_nodes v0_arcs v0_takenMany v0_leftBits v0_hasPolynomial 1 w0_near w0_lists w0_isApart_2 w0_ways_9 w0_next_16) → va_S A s.heap H locs → W p l e (headSpec us_Mo_byLists rm_Mo_byLists).room s m ([.ref a0] : List Value).toArray below meth c H locs 0 0 (MQ below (va_Qv (fun (_ : Unit) => True) (fun _ t => PoS (dC, dI) (tyL cI cJ cG cZ) (wd_Mo_byLists cI cJ cG cZ a0 a0_from a0_to a0_near a0_lists a0_colours a0_shades a0_tints a0_attempt a0_taken a0_isApart a0_ways a0_next a0_splits a0_powers a0_row a0_many a0_can a0_could a0_arcRow a0_order a0_isOut v0_thrown v0_nodes v0_arcs v0_takenMany v0_leftBits v0_hasPolynomial o_v0_hasLists w0_near w0_lists o_w0_isApart o_w0_ways o_w0_next) A t) A) ([.ref a0] : List Value).toArray s 0 0 A) (F0 m 102 ls []))) hm (fun k_102 z_102 ih_102 hm => ?_) _ _ rfl ls H locs (lv_sub hl [1, 2, 3, 4, 0] rfl) hP hD hS
          intro x4_15 w0_next_16 hz ls H locs hl hP hD hS
          subst hz
          dsimp only at hm
          refine lv_iload hx hb d_Mo_byLists_102 (lv_at hl 4 rfl) ?_
          refine lv_iload_n hx hb d_Mo_byLists_104 rfl (lv_at hl 1 rfl) ?_
          obtain ⟨J_201, hJ_201, hm⟩ := gB_x hm
          have jp_201 : ∀ (ls : Array Slot) (H : Heap) (locs : List Loc), J_201 = some (o_v0_hasLists, o_w0_isApart, o_w0_ways, o_w0_next) → lv_has ls 10 [(0, .ref a0), (1, .int x1_4), (2, .int x2_8), (3, .int x3_12)] → va_P (dC, dI) vwCl (wd_Mo_byLists cI cJ cG cZ a0 a0_from a0_to a0_near a0_lists a0_colours a0_shades a0_tints a0_attempt a0_taken a0_isApart a0_ways a0_next a0_splits a0_powers a0_row a0_many a0_can a0_could a0_arcRow a0_order a0_isOut v0_thrown v0_nodes v0_arcs v0_takenMany v0_leftBits v0_hasPolynomial 1 w0_near w0_lists w0_isApart_2 w0_ways_9 w0_next_16) H → va_D A (wd_Mo_byLists cI cJ cG cZ a0 a0_from a0_to a0_near a0_lists a0_colours a0_shades a0_tints a0_attempt a0_taken a0_isApart a0_ways a0_next a0_splits a0_powers a0_row a0_many a0_can a0_could a0_arcRow a0_order a0_isOut v0_thrown v0_nodes v0_arcs v0_takenMany v0_leftBits v0_hasPolynomial 1 w0_near w0_lists w0_isApart_2 w0_ways_9 w0_next_16) → va_S A s.heap H locs → W p l e (headSpec us_Mo_byLists rm_Mo_byLists).room s m ([.ref a0] : List Value).toArray below meth c H locs 0 0 (MQ below (va_Qv (fun (_ : Unit) => True) (fun _ t => PoS (dC, dI) (tyL cI cJ cG cZ) (wd_Mo_byLists cI cJ cG cZ a0 a0_from a0_to a0_near a0_lists a0_colours a0_shades a0_tints a0_attempt a0_taken a0_isApart a0_ways a0_next a0_splits a0_powers a0_row a0_many a0_can a0_could a0_arcRow a0_order a0_isOut v0_thrown v0_nodes v0_arcs v0_takenMany v0_leftBits v0_hasPolynomial o_v0_hasLists w0_near w0_lists o_w0_isApart o_w0_ways o_w0_next) A t) A) ([.ref a0] : List Value).toArray s 0 0 A) (F0 m 201 ls []) := by
            intro ls H locs hm hl hP hD hS
            have hm := jn0 hJ_201 hm
            refine lv_iconst (v := 0) hx hb d_Mo_byLists_201 (by decide) ?_
            refine lv_istore (lv' := [(4, .int 0), (0, .ref a0), (1, .int x1_4), (2, .int x2_8), (3, .int x3_12)]) hx hb d_Mo_byLists_202 hl (by decide) rfl (fun ls hl => ?_)
            refine gL_e (P := (fun (z_204 : Int32 × (Nat → Int64)) => ∀ (x4_17 : Int32), ∀ (w0_ways_18 : Nat → Int64), z_204 = (x4_17, w0_ways_18) → ∀ (ls : Array Slot) (H : Heap) (locs : List Loc), lv_has ls 10 [(0, .ref a0), (1, .int x1_4), (2, .int x2_8), (3, .int x3_12), (4, .int x4_17)] → va_P (dC, dI) vwCl (wd_Mo_byLists cI cJ cG cZ a0 a0_from a0_to a0_near a0_lists a0_colours a0_shades a0_tints a0_attempt a0_taken a0_isApart a0_ways a0_next a0_splits a0_powers a0_row a0_many a0_can a0_could a0_arcRow a0_order a0_isOut v0_thrown v0_nodes v0_arcs v0_takenMany v0_leftBits v0_hasPolynomial 1 w0_near w0_lists w0_isApart_2 w0_ways_18 w0_next_16) H → va_D A (wd_Mo_byLists cI cJ cG cZ a0 a0_from a0_to a0_near a0_lists a0_colours a0_shades a0_tints a0_attempt a0_taken a0_isApart a0_ways a0_next a0_splits a0_powers a0_row a0_many a0_can a0_could a0_arcRow a0_order a0_isOut v0_thrown v0_nodes v0_arcs v0_takenMany v0_leftBits v0_hasPolynomial 1 w0_near w0_lists w0_isApart_2 w0_ways_18 w0_next_16) → va_S A s.heap H locs → W p l e (headSpec us_Mo_byLists rm_Mo_byLists).room s m ([.ref a0] : List Value).toArray below meth c H locs 0 0 (MQ below (va_Qv (fun (_ : Unit) => True) (fun _ t => PoS (dC, dI) (tyL cI cJ cG cZ) (wd_Mo_byLists cI cJ cG cZ a0 a0_from a0_to a0_near a0_lists a0_colours a0_shades a0_tints a0_attempt a0_taken a0_isApart a0_ways a0_next a0_splits a0_powers a0_row a0_many a0_can a0_could a0_arcRow a0_order a0_isOut v0_thrown v0_nodes v0_arcs v0_takenMany v0_leftBits v0_hasPolynomial o_v0_hasLists w0_near w0_lists o_w0_isApart o_w0_ways o_w0_next) A t) A) ([.ref a0] : List Value).toArray s 0 0 A) (F0 m 204 ls []))) hm (fun k_204 z_204 ih_204 hm => ?_) _ _ rfl ls H locs (lv_sub hl [1, 2, 3, 4, 0] rfl) hP hD hS
            intro x4_17 w0_ways_18 hz ls H locs hl hP hD hS
            subst hz
            dsimp only at hm
            refine lv_iload hx hb d_Mo_byLists_204 (lv_at hl 4 rfl) ?_
            refine lv_iload_n hx hb d_Mo_byLists_206 rfl (lv_at hl 1 rfl) ?_
            refine lv_icmp_gt (tgt := 234) hx hb d_Mo_byLists_207 (by decide) (fun c_19 => ?_) (fun c_19 => ?_)
            · have hm := ite_t c_19 hm
              obtain ⟨x2_20, ex2_20⟩ : ∃ y : Int32, y = x2_8 + 1 := ⟨_, rfl⟩
              have hm := gB_at ex2_20 hm
              refine lv_iinc (v := x2_20) (lv' := [(2, .int x2_20), (0, .ref a0), (1, .int x1_4), (3, .int x3_12), (4, .int x4_17)]) hx hb d_Mo_byLists_234 hl (k := 2) rfl (by rw [ex2_20]; rfl) (by decide) rfl (fun ls hl => ?_)
              refine lv_goto (tgt := 56) hx hb d_Mo_byLists_237 (by decide) ?_
              exact ih_56 _ hm _ _ _ rfl ls H locs (lv_sub hl [1, 2, 0] rfl) hP hD hS
            · have hm := ite_f c_19 hm
              refine lv_iload_n hx hb d_Mo_byLists_210 rfl (lv_at hl 3 rfl) ?_
              refine lv_if_eq (tgt := 234) hx hb d_Mo_byLists_211 (by decide) (fun c_21 => ?_) (fun c_21 => ?_)
              · have hm := ite_t c_21 hm
                obtain ⟨x2_22, ex2_22⟩ : ∃ y : Int32, y = x2_8 + 1 := ⟨_, rfl⟩
                have hm := gB_at ex2_22 hm
                refine lv_iinc (v := x2_22) (lv' := [(2, .int x2_22), (0, .ref a0), (1, .int x1_4), (3, .int x3_12), (4, .int x4_17)]) hx hb d_Mo_byLists_234 hl (k := 2) rfl (by rw [ex2_22]; rfl) (by decide) rfl (fun ls hl => ?_)
                refine lv_goto (tgt := 56) hx hb d_Mo_byLists_237 (by decide) ?_
                exact ih_56 _ hm _ _ _ rfl ls H locs (lv_sub hl [1, 2, 0] rfl) hP hD hS
              · have hm := ite_f c_21 hm
                refine lv_aload_n hx hb d_Mo_byLists_214 rfl (lv_at hl 0 rfl) ?_
                refine va_get (D := (dC, dI)) (ci := 8) (v := .ref a0_ways) (C := R_Mo) (T := T_Mo) (N := 28) hx hb htt hin_Mo hown hK hP 0 rfl rfl 15 (by decide) (htt _ kt_784) (fun _ h9 => h9) rfl d_Mo_byLists_215 ?_
                refine lv_iload hx hb d_Mo_byLists_218 (lv_at hl 4 rfl) ?_
                refine lv_aload_n hx hb d_Mo_byLists_220 rfl (lv_at hl 0 rfl) ?_
                refine va_get (D := (dC, dI)) (ci := 8) (v := .ref a0_next) (C := R_Mo) (T := T_Mo) (N := 28) hx hb htt hin_Mo hown hK hP 0 rfl rfl 16 (by decide) (htt _ kt_785) (fun _ h9 => h9) rfl d_Mo_byLists_221 ?_
                refine lv_iload hx hb d_Mo_byLists_224 (lv_at hl 4 rfl) ?_
                obtain ⟨hi_23, hm⟩ := gC_e hm
                refine va_lald hx hb hK hP 5 1 rfl rfl (inb_vp hi_23) d_Mo_byLists_226 ?_
                obtain ⟨hi_24, hm⟩ := gC_e hm
                refine va_last hx hb hK hP hD hS 4 1 rfl rfl (inb_vp hi_24) d_Mo_byLists_227 (fun H locs hP hD hS => ?_)
                have hP : va_P (dC, dI) vwCl (wd_Mo_byLists cI cJ cG cZ a0 a0_from a0_to a0_near a0_lists a0_colours a0_shades a0_tints a0_attempt a0_taken a0_isApart a0_ways a0_next a0_splits a0_powers a0_row a0_many a0_can a0_could a0_arcRow a0_order a0_isOut v0_thrown v0_nodes v0_arcs v0_takenMany v0_leftBits v0_hasPolynomial 1 w0_near w0_lists w0_isApart_2 (vp_updL w0_ways_18 x4_17.toNatClampNeg (w0_next_16 x4_17.toNatClampNeg)) w0_next_16) H := hP
                have hD : va_D A (wd_Mo_byLists cI cJ cG cZ a0 a0_from a0_to a0_near a0_lists a0_colours a0_shades a0_tints a0_attempt a0_taken a0_isApart a0_ways a0_next a0_splits a0_powers a0_row a0_many a0_can a0_could a0_arcRow a0_order a0_isOut v0_thrown v0_nodes v0_arcs v0_takenMany v0_leftBits v0_hasPolynomial 1 w0_near w0_lists w0_isApart_2 (vp_updL w0_ways_18 x4_17.toNatClampNeg (w0_next_16 x4_17.toNatClampNeg)) w0_next_16) := hD
                obtain ⟨x4_25, ex4_25⟩ : ∃ y : Int32, y = x4_17 + 1 := ⟨_, rfl⟩
                have hm := gB_at ex4_25 hm
                refine lv_iinc (v := x4_25) (lv' := [(4, .int x4_25), (0, .ref a0), (1, .int x1_4), (2, .int x2_8), (3, .int x3_12)]) hx hb d_Mo_byLists_228 hl (k := 4) rfl (by rw [ex4_25]; rfl) (by decide) rfl (fun ls hl => ?_)
                refine lv_goto (tgt := 204) hx hb d_Mo_byLists_231 (by decide) ?_
                exact ih_204 _ hm _ _ rfl ls H locs (lv_sub hl [1, 2, 3, 4, 0] rfl) hP hD hS
          clear hJ_201
          refine lv_icmp_gt (tgt := 201) hx hb d_Mo_byLists_105 (by decide) (fun c_26 => ?_) (fun c_26 => ?_)
          · have hm := ite_t c_26 hm
            exact jp_201 ls H locs hm (lv_sub hl [0, 1, 2, 3] rfl) hP hD hS
          · have hm := ite_f c_26 hm
            refine lv_iload_n hx hb d_Mo_byLists_108 rfl (lv_at hl 3 rfl) ?_
            refine lv_if_eq (tgt := 201) hx hb d_Mo_byLists_109 (by decide) (fun c_27 => ?_) (fun c_27 => ?_)
            · have hm := ite_t c_27 hm
              exact jp_201 ls H locs hm (lv_sub hl [0, 1, 2, 3] rfl) hP hD hS
            · have hm := ite_f c_27 hm
              refine lv_lconst (v := 0) hx hb d_Mo_byLists_112 (by decide) ?_
              refine lv_lstore (lv' := [(5, .long 0), (0, .ref a0), (1, .int x1_4), (2, .int x2_8), (3, .int x3_12), (4, .int x4_15)]) hx hb d_Mo_byLists_113 hl (by decide) rfl (fun ls hl => ?_)
              refine lv_iload hx hb d_Mo_byLists_115 (lv_at hl 5 rfl) ?_
              refine lv_iload_n hx hb d_Mo_byLists_117 rfl (lv_at hl 4 rfl) ?_
              refine lv_iand hx hb d_Mo_byLists_118 ?_
              refine lv_topi (fun x7_28 ex7_28 => ?_)
              have hm := gB_at ex7_28 hm
              refine lv_istore (lv' := [(7, .int x7_28), (5, .long 0), (0, .ref a0), (1, .int x1_4), (2, .int x2_8), (3, .int x3_12), (4, .int x4_15)]) hx hb d_Mo_byLists_119 hl (by decide) rfl (fun ls hl => ?_)
              refine lv_iload hx hb d_Mo_byLists_121 (lv_at hl 0 rfl) ?_
              refine lv_istore (lv' := [(8, .int x7_28), (7, .int x7_28), (5, .long 0), (0, .ref a0), (1, .int x1_4), (2, .int x2_8), (3, .int x3_12), (4, .int x4_15)]) hx hb d_Mo_byLists_123 hl (by decide) rfl (fun ls hl => ?_)
              refine lv_iconst (v := 1) hx hb d_Mo_byLists_125 (by decide) ?_
              refine lv_istore (lv' := [(9, .int 1), (8, .int x7_28), (7, .int x7_28), (5, .long 0), (0, .ref a0), (1, .int x1_4), (2, .int x2_8), (3, .int x3_12), (4, .int x4_15)]) hx hb d_Mo_byLists_126 hl (by decide) rfl (fun ls hl => ?_)
              refine gL_e (P := (fun (z_128 : Int64 × Int32 × Int32) => ∀ (x5_29 : Int64), ∀ (x8_30 : Int32), ∀ (x9_31 : Int32), z_128 = (x5_29, x8_30, x9_31) → ∀ (ls : Array Slot) (H : Heap) (locs : List Loc), lv_has ls 10 [(0, .ref a0), (1, .int x1_4), (2, .int x2_8), (3, .int x3_12), (4, .int x4_15), (5, .long x5_29), (7, .int x7_28), (8, .int x8_30), (9, .int x9_31)] → va_P (dC, dI) vwCl (wd_Mo_byLists cI cJ cG cZ a0 a0_from a0_to a0_near a0_lists a0_colours a0_shades a0_tints a0_attempt a0_taken a0_isApart a0_ways a0_next a0_splits a0_powers a0_row a0_many a0_can a0_could a0_arcRow a0_order a0_isOut v0_thrown v0_nodes v0_arcs v0_takenMany v0_leftBits v0_hasPolynomial 1 w0_near w0_lists w0_isApart_2 w0_ways_9 w0_next_16) H → va_D A (wd_Mo_byLists cI cJ cG cZ a0 a0_from a0_to a0_near a0_lists a0_colours a0_shades a0_tints a0_attempt a0_taken a0_isApart a0_ways a0_next a0_splits a0_powers a0_row a0_many a0_can a0_could a0_arcRow a0_order a0_isOut v0_thrown v0_nodes v0_arcs v0_takenMany v0_leftBits v0_hasPolynomial 1 w0_near w0_lists w0_isApart_2 w0_ways_9 w0_next_16) → va_S A s.heap H locs → W p l e (headSpec us_Mo_byLists rm_Mo_byLists).room s m ([.ref a0] : List Value).toArray below meth c H locs 0 0 (MQ below (va_Qv (fun (_ : Unit) => True) (fun _ t => PoS (dC, dI) (tyL cI cJ cG cZ) (wd_Mo_byLists cI cJ cG cZ a0 a0_from a0_to a0_near a0_lists a0_colours a0_shades a0_tints a0_attempt a0_taken a0_isApart a0_ways a0_next a0_splits a0_powers a0_row a0_many a0_can a0_could a0_arcRow a0_order a0_isOut v0_thrown v0_nodes v0_arcs v0_takenMany v0_leftBits v0_hasPolynomial o_v0_hasLists w0_near w0_lists o_w0_isApart o_w0_ways o_w0_next) A t) A) ([.ref a0] : List Value).toArray s 0 0 A) (F0 m 128 ls []))) hm (fun k_128 z_128 ih_128 hm => ?_) _ _ _ rfl ls H locs (lv_sub hl [4, 5, 6, 7, 8, 3, 2, 1, 0] rfl) hP hD hS
              intro x5_29 x8_30 x9_31 hz ls H locs hl hP hD hS
              subst hz
              dsimp only at hm
              refine lv_iload hx hb d_Mo_byLists_128 (lv_at hl 8 rfl) ?_
              refine lv_if_eq (tgt := 186) hx hb d_Mo_byLists_130 (by decide) (fun c_32 => ?_) (fun c_32 => ?_)
              · have hm := ite_t c_32 hm
                refine lv_aload_n hx hb d_Mo_byLists_186 rfl (lv_at hl 0 rfl) ?_
                refine va_get (D := (dC, dI)) (ci := 8) (v := .ref a0_next) (C := R_Mo) (T := T_Mo) (N := 28) hx hb htt hin_Mo hown hK hP 0 rfl rfl 16 (by decide) (htt _ kt_785) (fun _ h9 => h9) rfl d_Mo_byLists_187 ?_
                refine lv_iload hx hb d_Mo_byLists_190 (lv_at hl 4 rfl) ?_
                refine lv_lload hx hb d_Mo_byLists_192 (lv_at hl 5 rfl) ?_
                obtain ⟨hi_33, hm⟩ := gC_e hm
                refine va_last hx hb hK hP hD hS 5 1 rfl rfl (inb_vp hi_33) d_Mo_byLists_194 (fun H locs hP hD hS => ?_)
                have hP : va_P (dC, dI) vwCl (wd_Mo_byLists cI cJ cG cZ a0 a0_from a0_to a0_near a0_lists a0_colours a0_shades a0_tints a0_attempt a0_taken a0_isApart a0_ways a0_next a0_splits a0_powers a0_row a0_many a0_can a0_could a0_arcRow a0_order a0_isOut v0_thrown v0_nodes v0_arcs v0_takenMany v0_leftBits v0_hasPolynomial 1 w0_near w0_lists w0_isApart_2 w0_ways_9 (vp_updL w0_next_16 x4_15.toNatClampNeg x5_29)) H := hP
                have hD : va_D A (wd_Mo_byLists cI cJ cG cZ a0 a0_from a0_to a0_near a0_lists a0_colours a0_shades a0_tints a0_attempt a0_taken a0_isApart a0_ways a0_next a0_splits a0_powers a0_row a0_many a0_can a0_could a0_arcRow a0_order a0_isOut v0_thrown v0_nodes v0_arcs v0_takenMany v0_leftBits v0_hasPolynomial 1 w0_near w0_lists w0_isApart_2 w0_ways_9 (vp_updL w0_next_16 x4_15.toNatClampNeg x5_29)) := hD
                obtain ⟨x4_34, ex4_34⟩ : ∃ y : Int32, y = x4_15 + 1 := ⟨_, rfl⟩
                have hm := gB_at ex4_34 hm
                refine lv_iinc (v := x4_34) (lv' := [(4, .int x4_34), (0, .ref a0), (1, .int x1_4), (2, .int x2_8), (3, .int x3_12), (5, .long x5_29), (7, .int x7_28), (8, .int x8_30), (9, .int x9_31)]) hx hb d_Mo_byLists_195 hl (k := 4) rfl (by rw [ex4_34]; rfl) (by decide) rfl (fun ls hl => ?_)
                refine lv_goto (tgt := 102) hx hb d_Mo_byLists_198 (by decide) ?_
                exact ih_102 _ hm _ _ rfl ls H locs (lv_sub hl [1, 2, 3, 4, 0] rfl) hP hD hS
              · have hm := ite_f c_32 hm
                refine lv_lload hx hb d_Mo_byLists_133 (lv_at hl 5 rfl) ?_
                refine lv_aload_n hx hb d_Mo_byLists_135 rfl (lv_at hl 0 rfl) ?_
                refine va_get (D := (dC, dI)) (ci := 8) (v := .ref a0_isApart) (C := R_Mo) (T := T_Mo) (N := 28) hx hb htt hin_Mo hown hK hP 0 rfl rfl 14 (by decide) (htt _ kt_783) (fun _ h9 => h9) rfl d_Mo_byLists_136 ?_
                refine lv_iload hx hb d_Mo_byLists_139 (lv_at hl 7 rfl) ?_
                obtain ⟨hi_35, hm⟩ := gC_e hm
                refine va_zald hx hb hK hP 3 3 rfl rfl (inb_vp hi_35) d_Mo_byLists_141 ?_
                obtain ⟨J_159, hJ_159, hm⟩ := gB_x hm
                have jp_159 : ∀ (s_36 : Int64) (ls : Array Slot) (H : Heap) (locs : List Loc), J_159 s_36 = some (o_v0_hasLists, o_w0_isApart, o_w0_ways, o_w0_next) → lv_has ls 10 [(0, .ref a0), (1, .int x1_4), (2, .int x2_8), (3, .int x3_12), (4, .int x4_15), (7, .int x7_28), (8, .int x8_30)] → va_P (dC, dI) vwCl (wd_Mo_byLists cI cJ cG cZ a0 a0_from a0_to a0_near a0_lists a0_colours a0_shades a0_tints a0_attempt a0_taken a0_isApart a0_ways a0_next a0_splits a0_powers a0_row a0_many a0_can a0_could a0_arcRow a0_order a0_isOut v0_thrown v0_nodes v0_arcs v0_takenMany v0_leftBits v0_hasPolynomial 1 w0_near w0_lists w0_isApart_2 w0_ways_9 w0_next_16) H → va_D A (wd_Mo_byLists cI cJ cG cZ a0 a0_from a0_to a0_near a0_lists a0_colours a0_shades a0_tints a0_attempt a0_taken a0_isApart a0_ways a0_next a0_splits a0_powers a0_row a0_many a0_can a0_could a0_arcRow a0_order a0_isOut v0_thrown v0_nodes v0_arcs v0_takenMany v0_leftBits v0_hasPolynomial 1 w0_near w0_lists w0_isApart_2 w0_ways_9 w0_next_16) → va_S A s.heap H locs → W p l e (headSpec us_Mo_byLists rm_Mo_byLists).room s m ([.ref a0] : List Value).toArray below meth c H locs 0 0 (MQ below (va_Qv (fun (_ : Unit) => True) (fun _ t => PoS (dC, dI) (tyL cI cJ cG cZ) (wd_Mo_byLists cI cJ cG cZ a0 a0_from a0_to a0_near a0_lists a0_colours a0_shades a0_tints a0_attempt a0_taken a0_isApart a0_ways a0_next a0_splits a0_powers a0_row a0_many a0_can a0_could a0_arcRow a0_order a0_isOut v0_thrown v0_nodes v0_arcs v0_takenMany v0_leftBits v0_hasPolynomial o_v0_hasLists w0_near w0_lists o_w0_isApart o_w0_ways o_w0_next) A t) A) ([.ref a0] : List Value).toArray s 0 0 A) (F0 m 159 ls [.long s_36, .long x5_29]) := by
                  intro s_36 ls H locs hm hl hP hD hS
                  have hm := jn1 hJ_159 hm
                  refine lv_ladd hx hb d_Mo_byLists_159 ?_
                  refine lv_topl (fun x5_37 ex5_37 => ?_)
                  have hm := gB_at ex5_37 hm
                  refine lv_lstore (lv' := [(5, .long x5_37), (0, .ref a0), (1, .int x1_4), (2, .int x2_8), (3, .int x3_12), (4, .int x4_15), (7, .int x7_28), (8, .int x8_30)]) hx hb d_Mo_byLists_160 hl (by decide) rfl (fun ls hl => ?_)
                  refine lv_iload hx hb d_Mo_byLists_162 (lv_at hl 7 rfl) ?_
                  obtain ⟨J_172, hJ_172, hm⟩ := gB_x hm
                  have jp_172 : ∀ (s_38 : Int32) (ls : Array Slot) (H : Heap) (locs : List Loc), J_172 s_38 = some (o_v0_hasLists, o_w0_isApart, o_w0_ways, o_w0_next) → lv_has ls 10 [(0, .ref a0), (1, .int x1_4), (2, .int x2_8), (3, .int x3_12), (4, .int x4_15), (5, .long x5_37), (7, .int x7_28), (8, .int x8_30)] → va_P (dC, dI) vwCl (wd_Mo_byLists cI cJ cG cZ a0 a0_from a0_to a0_near a0_lists a0_colours a0_shades a0_tints a0_attempt a0_taken a0_isApart a0_ways a0_next a0_splits a0_powers a0_row a0_many a0_can a0_could a0_arcRow a0_order a0_isOut v0_thrown v0_nodes v0_arcs v0_takenMany v0_leftBits v0_hasPolynomial 1 w0_near w0_lists w0_isApart_2 w0_ways_9 w0_next_16) H → va_D A (wd_Mo_byLists cI cJ cG cZ a0 a0_from a0_to a0_near a0_lists a0_colours a0_shades a0_tints a0_attempt a0_taken a0_isApart a0_ways a0_next a0_splits a0_powers a0_row a0_many a0_can a0_could a0_arcRow a0_order a0_isOut v0_thrown v0_nodes v0_arcs v0_takenMany v0_leftBits v0_hasPolynomial 1 w0_near w0_lists w0_isApart_2 w0_ways_9 w0_next_16) → va_S A s.heap H locs → W p l e (headSpec us_Mo_byLists rm_Mo_byLists).room s m ([.ref a0] : List Value).toArray below meth c H locs 0 0 (MQ below (va_Qv (fun (_ : Unit) => True) (fun _ t => PoS (dC, dI) (tyL cI cJ cG cZ) (wd_Mo_byLists cI cJ cG cZ a0 a0_from a0_to a0_near a0_lists a0_colours a0_shades a0_tints a0_attempt a0_taken a0_isApart a0_ways a0_next a0_splits a0_powers a0_row a0_many a0_can a0_could a0_arcRow a0_order a0_isOut v0_thrown v0_nodes v0_arcs v0_takenMany v0_leftBits v0_hasPolynomial o_v0_hasLists w0_near w0_lists o_w0_isApart o_w0_ways o_w0_next) A t) A) ([.ref a0] : List Value).toArray s 0 0 A) (F0 m 172 ls [.int s_38]) := by
                    intro s_38 ls H locs hm hl hP hD hS
                    have hm := jn1 hJ_172 hm
                    refine lv_istore (lv' := [(9, .int s_38), (0, .ref a0), (1, .int x1_4), (2, .int x2_8), (3, .int x3_12), (4, .int x4_15), (5, .long x5_37), (7, .int x7_28), (8, .int x8_30)]) hx hb d_Mo_byLists_172 hl (by decide) rfl (fun ls hl => ?_)
                    refine lv_iload hx hb d_Mo_byLists_174 (lv_at hl 8 rfl) ?_
                    refine lv_iconst (v := 1) hx hb d_Mo_byLists_176 (by decide) ?_
                    refine lv_isub hx hb d_Mo_byLists_177 ?_
                    refine lv_iload hx hb d_Mo_byLists_178 (lv_at hl 7 rfl) ?_
                    refine lv_iand hx hb d_Mo_byLists_180 ?_
                    refine lv_topi (fun x8_39 ex8_39 => ?_)
                    have hm := gB_at ex8_39 hm
                    refine lv_istore (lv' := [(8, .int x8_39), (9, .int s_38), (0, .ref a0), (1, .int x1_4), (2, .int x2_8), (3, .int x3_12), (4, .int x4_15), (5, .long x5_37), (7, .int x7_28)]) hx hb d_Mo_byLists_181 hl (by decide) rfl (fun ls hl => ?_)
                    refine lv_goto (tgt := 128) hx hb d_Mo_byLists_183 (by decide) ?_
                    exact ih_128 _ hm _ _ _ rfl ls H locs (lv_sub hl [2, 3, 4, 5, 6, 7, 8, 0, 1] rfl) hP hD hS
                  clear hJ_172
                  refine lv_if_le (tgt := 171) hx hb d_Mo_byLists_164 (by decide) (fun c_40 => ?_) (fun c_40 => ?_)
                  · have hm := ite_t c_40 hm
                    refine lv_iconst (v := 0) hx hb d_Mo_byLists_171 (by decide) ?_
                    exact jp_172 _ ls H locs hm (lv_sub hl [1, 2, 3, 4, 5, 0, 6, 7] rfl) hP hD hS
                  · have hm := ite_f c_40 hm
                    refine lv_iconst (v := 1) hx hb d_Mo_byLists_167 (by decide) ?_
                    refine lv_goto (tgt := 172) hx hb d_Mo_byLists_168 (by decide) ?_
                    exact jp_172 _ ls H locs hm (lv_sub hl [1, 2, 3, 4, 5, 0, 6, 7] rfl) hP hD hS
                clear hJ_159
                refine lv_if_eq (tgt := 158) hx hb d_Mo_byLists_142 (by decide) (fun c_41 => ?_) (fun c_41 => ?_)
                · have hm := ite_t c_41 hm
                  refine lv_lconst (v := 0) hx hb d_Mo_byLists_158 (by decide) ?_
                  exact jp_159 _ ls H locs hm (lv_sub hl [0, 1, 2, 3, 4, 6, 7] rfl) hP hD hS
                · have hm := ite_f c_41 hm
                  refine lv_aload_n hx hb d_Mo_byLists_145 rfl (lv_at hl 0 rfl) ?_
                  refine va_get (D := (dC, dI)) (ci := 8) (v := .ref a0_ways) (C := R_Mo) (T := T_Mo) (N := 28) hx hb htt hin_Mo hown hK hP 0 rfl rfl 15 (by decide) (htt _ kt_784) (fun _ h9 => h9) rfl d_Mo_byLists_146 ?_
                  refine lv_iload hx hb d_Mo_byLists_149 (lv_at hl 4 rfl) ?_
                  refine lv_iload hx hb d_Mo_byLists_151 (lv_at hl 7 rfl) ?_
                  refine lv_ixor hx hb d_Mo_byLists_153 ?_
                  obtain ⟨hi_42, hm⟩ := gC_e hm
                  refine va_lald hx hb hK hP 4 1 rfl rfl (inb_vp hi_42) d_Mo_byLists_154 ?_
                  refine lv_goto (tgt := 159) hx hb d_Mo_byLists_155 (by decide) ?_
                  exact jp_159 _ ls H locs hm (lv_sub hl [0, 1, 2, 3, 4, 6, 7] rfl) hP hD hS
        · have hm := ite_f c_14 hm
          refine lv_iload_n hx hb d_Mo_byLists_76 rfl (lv_at hl 3 rfl) ?_
          refine lv_aload_n hx hb d_Mo_byLists_77 rfl (lv_at hl 0 rfl) ?_
          refine va_get (D := (dC, dI)) (ci := 8) (v := .ref a0_lists) (C := R_Mo) (T := T_Mo) (N := 28) hx hb htt hin_Mo hown hK hP 0 rfl rfl 6 (by decide) (htt _ kt_775) (fun _ h9 => h9) rfl d_Mo_byLists_78 ?_
          refine lv_iload hx hb d_Mo_byLists_81 (lv_at hl 4 rfl) ?_
          obtain ⟨hi_43, hm⟩ := gC_e hm
          refine va_iald hx hb hK hP 2 0 rfl rfl (inb_vp hi_43) d_Mo_byLists_83 ?_
          refine lv_iload_n hx hb d_Mo_byLists_84 rfl (lv_at hl 2 rfl) ?_
          refine lv_ishr hx hb d_Mo_byLists_85 ?_
          refine lv_iconst (v := 1) hx hb d_Mo_byLists_86 (by decide) ?_
          refine lv_iand hx hb d_Mo_byLists_87 ?_
          refine lv_iload hx hb d_Mo_byLists_88 (lv_at hl 4 rfl) ?_
          refine lv_ishl hx hb d_Mo_byLists_90 ?_
          refine lv_ior hx hb d_Mo_byLists_91 ?_
          refine lv_topi (fun x3_44 ex3_44 => ?_)
          have hm := gB_at ex3_44 hm
          refine lv_istore_n (lv' := [(3, .int x3_44), (0, .ref a0), (1, .int x1_4), (2, .int x2_8), (4, .int x4_13)]) hx hb d_Mo_byLists_92 rfl hl (by decide) rfl (fun ls hl => ?_)
          obtain ⟨x4_45, ex4_45⟩ : ∃ y : Int32, y = x4_13 + 1 := ⟨_, rfl⟩
          have hm := gB_at ex4_45 hm
          refine lv_iinc (v := x4_45) (lv' := [(4, .int x4_45), (3, .int x3_44), (0, .ref a0), (1, .int x1_4), (2, .int x2_8)]) hx hb d_Mo_byLists_93 hl (k := 4) rfl (by rw [ex4_45]; rfl) (by decide) rfl (fun ls hl => ?_)
          refine lv_goto (tgt := 67) hx hb d_Mo_byLists_96 (by decide) ?_
          exact ih_67 _ hm _ _ rfl ls H locs (lv_sub hl [2, 3, 4, 1, 0] rfl) hP hD hS
    · have hm := ite_f c_7 hm
      refine lv_aload_n hx hb d_Mo_byLists_33 rfl (lv_at hl 0 rfl) ?_
      refine va_get (D := (dC, dI)) (ci := 8) (v := .ref a0_ways) (C := R_Mo) (T := T_Mo) (N := 28) hx hb htt hin_Mo hown hK hP 0 rfl rfl 15 (by decide) (htt _ kt_784) (fun _ h9 => h9) rfl d_Mo_byLists_34 ?_
      refine lv_iload_n hx hb d_Mo_byLists_37 rfl (lv_at hl 2 rfl) ?_
      refine lv_iload_n hx hb d_Mo_byLists_38 rfl (lv_at hl 2 rfl) ?_
      obtain ⟨J_47, hJ_47, hm⟩ := gB_x hm
      have jp_47 : ∀ (s_46 : Int64) (ls : Array Slot) (H : Heap) (locs : List Loc), J_47 s_46 = some (o_v0_hasLists, o_w0_isApart, o_w0_ways, o_w0_next) → lv_has ls 10 [(0, .ref a0), (1, .int x1_4), (2, .int x2_5)] → va_P (dC, dI) vwCl (wd_Mo_byLists cI cJ cG cZ a0 a0_from a0_to a0_near a0_lists a0_colours a0_shades a0_tints a0_attempt a0_taken a0_isApart a0_ways a0_next a0_splits a0_powers a0_row a0_many a0_can a0_could a0_arcRow a0_order a0_isOut v0_thrown v0_nodes v0_arcs v0_takenMany v0_leftBits v0_hasPolynomial 1 w0_near w0_lists w0_isApart_2 w0_ways_6 w0_next) H → va_D A (wd_Mo_byLists cI cJ cG cZ a0 a0_from a0_to a0_near a0_lists a0_colours a0_shades a0_tints a0_attempt a0_taken a0_isApart a0_ways a0_next a0_splits a0_powers a0_row a0_many a0_can a0_could a0_arcRow a0_order a0_isOut v0_thrown v0_nodes v0_arcs v0_takenMany v0_leftBits v0_hasPolynomial 1 w0_near w0_lists w0_isApart_2 w0_ways_6 w0_next) → va_S A s.heap H locs → W p l e (headSpec us_Mo_byLists rm_Mo_byLists).room s m ([.ref a0] : List Value).toArray below meth c H locs 0 0 (MQ below (va_Qv (fun (_ : Unit) => True) (fun _ t => PoS (dC, dI) (tyL cI cJ cG cZ) (wd_Mo_byLists cI cJ cG cZ a0 a0_from a0_to a0_near a0_lists a0_colours a0_shades a0_tints a0_attempt a0_taken a0_isApart a0_ways a0_next a0_splits a0_powers a0_row a0_many a0_can a0_could a0_arcRow a0_order a0_isOut v0_thrown v0_nodes v0_arcs v0_takenMany v0_leftBits v0_hasPolynomial o_v0_hasLists w0_near w0_lists o_w0_isApart o_w0_ways o_w0_next) A t) A) ([.ref a0] : List Value).toArray s 0 0 A) (F0 m 47 ls [.long s_46, .int x2_5, .ref a0_ways]) := by
        intro s_46 ls H locs hm hl hP hD hS
        have hm := jn1 hJ_47 hm
        obtain ⟨hi_47, hm⟩ := gC_e hm
        refine va_last hx hb hK hP hD hS 4 1 rfl rfl (inb_vp hi_47) d_Mo_byLists_47 (fun H locs hP hD hS => ?_)
        have hP : va_P (dC, dI) vwCl (wd_Mo_byLists cI cJ cG cZ a0 a0_from a0_to a0_near a0_lists a0_colours a0_shades a0_tints a0_attempt a0_taken a0_isApart a0_ways a0_next a0_splits a0_powers a0_row a0_many a0_can a0_could a0_arcRow a0_order a0_isOut v0_thrown v0_nodes v0_arcs v0_takenMany v0_leftBits v0_hasPolynomial 1 w0_near w0_lists w0_isApart_2 (vp_updL w0_ways_6 x2_5.toNatClampNeg s_46) w0_next) H := hP
        have hD : va_D A (wd_Mo_byLists cI cJ cG cZ a0 a0_from a0_to a0_near a0_lists a0_colours a0_shades a0_tints a0_attempt a0_taken a0_isApart a0_ways a0_next a0_splits a0_powers a0_row a0_many a0_can a0_could a0_arcRow a0_order a0_isOut v0_thrown v0_nodes v0_arcs v0_takenMany v0_leftBits v0_hasPolynomial 1 w0_near w0_lists w0_isApart_2 (vp_updL w0_ways_6 x2_5.toNatClampNeg s_46) w0_next) := hD
        obtain ⟨x2_48, ex2_48⟩ : ∃ y : Int32, y = x2_5 + 1 := ⟨_, rfl⟩
        have hm := gB_at ex2_48 hm
        refine lv_iinc (v := x2_48) (lv' := [(2, .int x2_48), (0, .ref a0), (1, .int x1_4)]) hx hb d_Mo_byLists_48 hl (k := 2) rfl (by rw [ex2_48]; rfl) (by decide) rfl (fun ls hl => ?_)
        refine lv_goto (tgt := 28) hx hb d_Mo_byLists_51 (by decide) ?_
        exact ih_28 _ hm _ _ rfl ls H locs (lv_sub hl [1, 2, 0] rfl) hP hD hS
      clear hJ_47
      refine lv_if_ne (tgt := 46) hx hb d_Mo_byLists_39 (by decide) (fun c_49 => ?_) (fun c_49 => ?_)
      · have hm := ite_f c_49 hm
        refine lv_lconst (v := 0) hx hb d_Mo_byLists_46 (by decide) ?_
        exact jp_47 _ ls H locs hm (lv_sub hl [0, 1, 2] rfl) hP hD hS
      · have hm := ite_t c_49 hm
        refine lv_lconst (v := 1) hx hb d_Mo_byLists_42 (by decide) ?_
        refine lv_goto (tgt := 47) hx hb d_Mo_byLists_43 (by decide) ?_
        exact jp_47 _ ls H locs hm (lv_sub hl [0, 1, 2] rfl) hP hD hS
  · have hm := ite_f c_1 hm
    cases hm
    exact W.vret hx hb hr (fun t ht hW => ⟨⟨(), rfl, trivial, by rw [ht]; exact hP, va_K.moved hW.alike hK, hD⟩, hS.F ht⟩) hS.2.2 d_Mo_byLists_7
theorem d_Mo_listed_0 : decode prog_10_method_26_code 0 = .ok (.aload_n 0, 1) := by decide +kernel
theorem d_Mo_listed_1 : decode prog_10_method_26_code 1 = .ok (.iconst 0, 1) := by decide +kernel
theorem d_Mo_listed_2 : decode prog_10_method_26_code 2 = .ok (.putfield 79, 3) := by decide +kernel
theorem d_Mo_listed_5 : decode prog_10_method_26_code 5 = .ok (.aload_n 0, 1) := by decide +kernel
theorem d_Mo_listed_6 : decode prog_10_method_26_code 6 = .ok (.invokevirtual 136, 3) := by decide +kernel
theorem d_Mo_listed_9 : decode prog_10_method_26_code 9 = .ok (.aload_n 0, 1) := by decide +kernel
theorem d_Mo_listed_10 : decode prog_10_method_26_code 10 = .ok (.getfield 41, 3) := by decide +kernel
theorem d_Mo_listed_13 : decode prog_10_method_26_code 13 = .ok (.iconst 1, 1) := by decide +kernel
theorem d_Mo_listed_14 : decode prog_10_method_26_code 14 = .ok (.aload_n 0, 1) := by decide +kernel
theorem d_Mo_listed_15 : decode prog_10_method_26_code 15 = .ok (.getfield 86, 3) := by decide +kernel
theorem d_Mo_listed_18 : decode prog_10_method_26_code 18 = .ok (.ishl, 1) := by decide +kernel
theorem d_Mo_listed_19 : decode prog_10_method_26_code 19 = .ok (.iconst 1, 1) := by decide +kernel
theorem d_Mo_listed_20 : decode prog_10_method_26_code 20 = .ok (.isub, 1) := by decide +kernel
theorem d_Mo_listed_21 : decode prog_10_method_26_code 21 = .ok (.laload, 1) := by decide +kernel
theorem d_Mo_listed_22 : decode prog_10_method_26_code 22 = .ok (.lreturn, 1) := by decide +kernel
abbrev wd_Mo_listed (cI cJ cG cZ : ClassId) (a0 a0_from a0_to a0_near a0_lists a0_colours a0_shades a0_tints a0_attempt a0_taken a0_isApart a0_ways a0_next a0_splits a0_powers a0_row a0_many a0_can a0_could a0_arcRow a0_order a0_isOut : Nat) (v0_thrown : Int32) (v0_nodes : Int32) (v0_arcs : Int32) (v0_takenMany : Int32) (v0_leftBits : Int32) (v0_hasPolynomial : Int32) (v0_hasLists : Int32) (w0_near : Nat → Int32) (w0_lists : Nat → Int32) (w0_isApart : Nat → Int32) (w0_ways : Nat → Int64) (w0_next : Nat → Int64) : va_W := [(a0, .inr (8, [.int v0_thrown, .int v0_nodes, .int v0_arcs, .ref a0_from, .ref a0_to, .ref a0_near, .ref a0_lists, .ref a0_colours, .ref a0_shades, .ref a0_tints, .ref a0_attempt, .int v0_takenMany, .ref a0_taken, .int v0_leftBits, .ref a0_isApart, .ref a0_ways, .ref a0_next, .ref a0_splits, .ref a0_powers, .ref a0_row, .ref a0_many, .int v0_hasPolynomial, .int v0_hasLists, .ref a0_can, .ref a0_could, .ref a0_arcRow, .ref a0_order, .ref a0_isOut])), (a0_near, .inl (cI, 12, .inl w0_near)), (a0_lists, .inl (cI, 12, .inl w0_lists)), (a0_isApart, .inl (cZ, 4096, .inl w0_isApart)), (a0_ways, .inl (cJ, 4096, .inr (.inl w0_ways))), (a0_next, .inl (cJ, 4096, .inr (.inl w0_next)))]
abbrev us_Mo_listed : List Cond := .code y_Mo_listed prog_10_method_26_code 1 (some .long) :: gtbl
abbrev rm_Mo_listed : Room := { frames := 2, cells := 0, slots := 0, locals := 52 }
def m_Mo_listed (F : Nat) (v0_thrown : Int32) (v0_nodes : Int32) (v0_arcs : Int32) (v0_takenMany : Int32) (v0_leftBits : Int32) (v0_hasPolynomial : Int32) (v0_hasLists : Int32) (w0_near : Nat → Int32) (w0_lists : Nat → Int32) (w0_isApart : Nat → Int32) (w0_ways : Nat → Int64) (w0_next : Nat → Int64) : Option (Int64 × Int32 × Int32 × (Nat → Int32) × (Nat → Int64) × (Nat → Int64)) :=
  gM (m_Mo_byLists F 0 v0_nodes v0_arcs v0_takenMany v0_leftBits v0_hasPolynomial v0_hasLists w0_near w0_lists w0_isApart w0_ways w0_next) (fun (z_6 : Int32 × (Nat → Int32) × (Nat → Int64) × (Nat → Int64)) => match z_6 with
  | (v0_hasLists_1, w0_isApart_2, w0_ways_3, w0_next_4) =>
  gC (inb (((1 : Int32) <<< (v0_nodes &&& 31)) - 1) 4096) (
  some (w0_ways_3 (((1 : Int32) <<< (v0_nodes &&& 31)) - 1).toNatClampNeg, 0, v0_hasLists_1, w0_isApart_2, w0_ways_3, w0_next_4)))
set_option maxHeartbeats 4000000 in
set_option maxRecDepth 100000 in
theorem c_Mo_listed (l : Launch) (dC : Nat → ClassId) (dI : Nat → Nat → Nat) (cI cJ cG cZ : ClassId) (a0 a0_from a0_to a0_near a0_lists a0_colours a0_shades a0_tints a0_attempt a0_taken a0_isApart a0_ways a0_next a0_splits a0_powers a0_row a0_many a0_can a0_could a0_arcRow a0_order a0_isOut : Nat) (sz : Nat) (F : Nat) (v0_thrown : Int32) (v0_nodes : Int32) (v0_arcs : Int32) (v0_takenMany : Int32) (v0_leftBits : Int32) (v0_hasPolynomial : Int32) (v0_hasLists : Int32) (w0_near : Nat → Int32) (w0_lists : Nat → Int32) (w0_isApart : Nat → Int32) (w0_ways : Nat → Int64) (w0_next : Nat → Int64) (ret : Int64) (o_v0_thrown : Int32) (o_v0_hasLists : Int32) (o_w0_isApart : Nat → Int32) (o_w0_ways : Nat → Int64) (o_w0_next : Nat → Int64) (hm : m_Mo_listed F v0_thrown v0_nodes v0_arcs v0_takenMany v0_leftBits v0_hasPolynomial v0_hasLists w0_near w0_lists w0_isApart w0_ways w0_next = some (ret, o_v0_thrown, o_v0_hasLists, o_w0_isApart, o_w0_ways, o_w0_next)) : Met l y_Mo_listed us_Mo_listed rm_Mo_listed (PcS (dC, dI) (tyL cI cJ cG cZ) [.ref a0] sz (wd_Mo_listed cI cJ cG cZ a0 a0_from a0_to a0_near a0_lists a0_colours a0_shades a0_tints a0_attempt a0_taken a0_isApart a0_ways a0_next a0_splits a0_powers a0_row a0_many a0_can a0_could a0_arcRow a0_order a0_isOut v0_thrown v0_nodes v0_arcs v0_takenMany v0_leftBits v0_hasPolynomial v0_hasLists w0_near w0_lists w0_isApart w0_ways w0_next)) (va_Ql (fun (r : Int64) (_ : Unit) => ret = r) (fun _ t => PoS (dC, dI) (tyL cI cJ cG cZ) (wd_Mo_listed cI cJ cG cZ a0 a0_from a0_to a0_near a0_lists a0_colours a0_shades a0_tints a0_attempt a0_taken a0_isApart a0_ways a0_next a0_splits a0_powers a0_row a0_many a0_can a0_could a0_arcRow a0_order a0_isOut o_v0_thrown v0_nodes v0_arcs v0_takenMany v0_leftBits v0_hasPolynomial o_v0_hasLists w0_near w0_lists o_w0_isApart o_w0_ways o_w0_next) (va_A (wd_Mo_listed cI cJ cG cZ a0 a0_from a0_to a0_near a0_lists a0_colours a0_shades a0_tints a0_attempt a0_taken a0_isApart a0_ways a0_next a0_splits a0_powers a0_row a0_many a0_can a0_could a0_arcRow a0_order a0_isOut v0_thrown v0_nodes v0_arcs v0_takenMany v0_leftBits v0_hasPolynomial v0_hasLists w0_near w0_lists w0_isApart w0_ways w0_next) sz) t) (va_A (wd_Mo_listed cI cJ cG cZ a0 a0_from a0_to a0_near a0_lists a0_colours a0_shades a0_tints a0_attempt a0_taken a0_isApart a0_ways a0_next a0_splits a0_powers a0_row a0_many a0_can a0_could a0_arcRow a0_order a0_isOut v0_thrown v0_nodes v0_arcs v0_takenMany v0_leftBits v0_hasPolynomial v0_hasLists w0_near w0_lists w0_isApart w0_ways w0_next) sz)) 0 0 (va_A (wd_Mo_listed cI cJ cG cZ a0 a0_from a0_to a0_near a0_lists a0_colours a0_shades a0_tints a0_attempt a0_taken a0_isApart a0_ways a0_next a0_splits a0_powers a0_row a0_many a0_can a0_could a0_arcRow a0_order a0_isOut v0_thrown v0_nodes v0_arcs v0_takenMany v0_leftBits v0_hasPolynomial v0_hasLists w0_near w0_lists w0_isApart w0_ways w0_next) sz) := by
  refine Met.ofW (cc := prog_10_method_26_code) (maxL := 1) (ret := (some .long)) (by decide) rfl ?_
  intro p e s m args below meth c s₁ B hml hv
  obtain ⟨rfl, hsz, hP, hK, hD0, hNw⟩ := hv
  have hx := B.exec
  have hb := B.bytes
  have hr := B.returns
  have htt : ∀ w ∈ gtbl, w.before _ s = true := fun w h => atoms_spec (ws := us_Mo_listed) B.pre w (List.mem_cons_of_mem _ h)
  have hown : s.vm.findClass R_Mo = some m.cls := findClass_of_methodNamed B.named
  have hlocks := B.notSynchronized
  subst hsz
  have hD := hD0.self (sz := s.heap.size)
  generalize hAe : va_A (wd_Mo_listed cI cJ cG cZ a0 a0_from a0_to a0_near a0_lists a0_colours a0_shades a0_tints a0_attempt a0_taken a0_isApart a0_ways a0_next a0_splits a0_powers a0_row a0_many a0_can a0_could a0_arcRow a0_order a0_isOut v0_thrown v0_nodes v0_arcs v0_takenMany v0_leftBits v0_hasPolynomial v0_hasLists w0_near w0_lists w0_isApart w0_ways w0_next) s.heap.size = A at hD ⊢
  have hA : ∀ q : Nat, s.heap.size ≤ q → A q := fun q h => by rw [← hAe]; exact Or.inr h
  clear hAe hD0
  have hS : va_S A s.heap s.heap [] := va_S.rf
  have hl := lv_entry ([.ref a0]) (n := 1) (Nat.le_of_ble_eq_true rfl)
  rw [lg_entry_eq]
  generalize (lg_sl ([.ref a0]) ++ List.replicate (1 - (lg_sl ([.ref a0])).length) Slot.unset).toArray = ls at hl ⊢
  have hl : lv_has ls 1 [(0, .ref a0)] := hl
  generalize hH : s.heap = H at hP ⊢
  have hS : va_S A s.heap H [] := hH ▸ hS
  generalize hLo : ([] : List Loc) = locs at hS ⊢
  clear hH hLo
  unfold m_Mo_listed at hm
  refine lv_aload_n hx hb d_Mo_listed_0 rfl (lv_at hl 0 rfl) ?_
  refine lv_iconst (v := 0) hx hb d_Mo_listed_1 (by decide) ?_
  refine va_put (D := (dC, dI)) (ci := 8) (v := .int 0) (ty := .int) (C := R_Mo) (T := T_Mo) (N := 28) hx hb htt hin_Mo ty_Mo tyok_Mo nm_Mo hown hK hP hD hS 0 rfl rfl 0 (by decide) (htt _ kt_769) (fun _ h9 => h9) rfl (by decide +kernel) rfl rfl (Nat.le_of_ble_eq_true rfl) d_Mo_listed_2 (fun H locs hP hD hS => ?_)
  have hP : va_P (dC, dI) vwCl (wd_Mo_listed cI cJ cG cZ a0 a0_from a0_to a0_near a0_lists a0_colours a0_shades a0_tints a0_attempt a0_taken a0_isApart a0_ways a0_next a0_splits a0_powers a0_row a0_many a0_can a0_could a0_arcRow a0_order a0_isOut 0 v0_nodes v0_arcs v0_takenMany v0_leftBits v0_hasPolynomial v0_hasLists w0_near w0_lists w0_isApart w0_ways w0_next) H := hP
  have hD : va_D A (wd_Mo_listed cI cJ cG cZ a0 a0_from a0_to a0_near a0_lists a0_colours a0_shades a0_tints a0_attempt a0_taken a0_isApart a0_ways a0_next a0_splits a0_powers a0_row a0_many a0_can a0_could a0_arcRow a0_order a0_isOut 0 v0_nodes v0_arcs v0_takenMany v0_leftBits v0_hasPolynomial v0_hasLists w0_near w0_lists w0_isApart w0_ways w0_next) := hD
  refine lv_aload_n hx hb d_Mo_listed_5 rfl (lv_at hl 0 rfl) ?_
  obtain ⟨⟨v0_hasLists_1, w0_isApart_2, w0_ways_3, w0_next_4⟩, hc_5, hm⟩ := gM_e hm
  dsimp only at hm
  have hPc : va_P (dC, dI) vwCl (wd_Mo_byLists cI cJ cG cZ a0 a0_from a0_to a0_near a0_lists a0_colours a0_shades a0_tints a0_attempt a0_taken a0_isApart a0_ways a0_next a0_splits a0_powers a0_row a0_many a0_can a0_could a0_arcRow a0_order a0_isOut 0 v0_nodes v0_arcs v0_takenMany v0_leftBits v0_hasPolynomial v0_hasLists w0_near w0_lists w0_isApart w0_ways w0_next) H := hP.sub [0, 1, 2, 3, 4, 5] rfl
  have hDc : va_D A (wd_Mo_byLists cI cJ cG cZ a0 a0_from a0_to a0_near a0_lists a0_colours a0_shades a0_tints a0_attempt a0_taken a0_isApart a0_ways a0_next a0_splits a0_powers a0_row a0_many a0_can a0_could a0_arcRow a0_order a0_isOut 0 v0_nodes v0_arcs v0_takenMany v0_leftBits v0_hasPolynomial v0_hasLists w0_near w0_lists w0_isApart w0_ways w0_next) := hD.sub [0, 1, 2, 3, 4, 5] (by decide) rfl
  have hFc : ∀ q, va_A (wd_Mo_byLists cI cJ cG cZ a0 a0_from a0_to a0_near a0_lists a0_colours a0_shades a0_tints a0_attempt a0_taken a0_isApart a0_ways a0_next a0_splits a0_powers a0_row a0_many a0_can a0_could a0_arcRow a0_order a0_isOut 0 v0_nodes v0_arcs v0_takenMany v0_leftBits v0_hasPolynomial v0_hasLists w0_near w0_lists w0_isApart w0_ways w0_next) H.size q → A q := va_free hD hS hA [0, 1, 2, 3, 4, 5] rfl
  refine va_callv (va_runV (As := []) (rest := []) ⟨hx, hb, hml, hown, htt⟩ (c_Mo_byLists l dC dI cI cJ cG cZ a0 a0_from a0_to a0_near a0_lists a0_colours a0_shades a0_tints a0_attempt a0_taken a0_isApart a0_ways a0_next a0_splits a0_powers a0_row a0_many a0_can a0_could a0_arcRow a0_order a0_isOut H.size F 0 v0_nodes v0_arcs v0_takenMany v0_leftBits v0_hasPolynomial v0_hasLists w0_near w0_lists w0_isApart w0_ways w0_next v0_hasLists_1 w0_isApart_2 w0_ways_3 w0_next_4 hc_5) (cwV 0 htt (gdV kt_940 kt_942 kp_52 kt_10 kt_943) rfl rfl rfl (by decide +kernel) ⟨(Nat.le_of_ble_eq_true rfl), (Nat.le_of_ble_eq_true rfl)⟩) ⟨PcS_blind, va_recv hK hPc (ci := 8) (q0 := 0) rfl rfl, PcS_in hPc hK hDc hNw⟩ rfl rfl hl.1 rfl (lv_room (Nat.le_of_ble_eq_true rfl)) d_Mo_listed_6 ⟨Nat.zero_le _, Nat.zero_le _⟩) hS (fun q _ h => hFc q h) hFc (fun u t H1 locs ht hvm hw hB hz1 hk1 hS => ?_)
  obtain ⟨hP1, hK1, hD1⟩ := hB
  rw [ht] at hP1
  obtain ⟨hP, hD⟩ := va_join (wr := []) (w1 := (wd_Mo_byLists cI cJ cG cZ a0 a0_from a0_to a0_near a0_lists a0_colours a0_shades a0_tints a0_attempt a0_taken a0_isApart a0_ways a0_next a0_splits a0_powers a0_row a0_many a0_can a0_could a0_arcRow a0_order a0_isOut 0 v0_nodes v0_arcs v0_takenMany v0_leftBits v0_hasPolynomial v0_hasLists_1 w0_near w0_lists w0_isApart_2 w0_ways_3 w0_next_4)) hP hD [0, 1, 2, 3, 4, 5] [] rfl rfl (by decide) (by decide) hk1 hFc hP1 hD1
  have hP : va_P (dC, dI) vwCl (wd_Mo_listed cI cJ cG cZ a0 a0_from a0_to a0_near a0_lists a0_colours a0_shades a0_tints a0_attempt a0_taken a0_isApart a0_ways a0_next a0_splits a0_powers a0_row a0_many a0_can a0_could a0_arcRow a0_order a0_isOut 0 v0_nodes v0_arcs v0_takenMany v0_leftBits v0_hasPolynomial v0_hasLists_1 w0_near w0_lists w0_isApart_2 w0_ways_3 w0_next_4) H1 := hP.sub [0, 1, 2, 3, 4, 5] rfl
  have hD : va_D A (wd_Mo_listed cI cJ cG cZ a0 a0_from a0_to a0_near a0_lists a0_colours a0_shades a0_tints a0_attempt a0_taken a0_isApart a0_ways a0_next a0_splits a0_powers a0_row a0_many a0_can a0_could a0_arcRow a0_order a0_isOut 0 v0_nodes v0_arcs v0_takenMany v0_leftBits v0_hasPolynomial v0_hasLists_1 w0_near w0_lists w0_isApart_2 w0_ways_3 w0_next_4) := hD.sub [0, 1, 2, 3, 4, 5] (by decide) rfl
  clear hP1 hK1 hD1 hk1 hPc hDc hFc ht hvm hz1
  generalize H1 = H at hP hS ⊢
  refine lv_aload_n hx hb d_Mo_listed_9 rfl (lv_at hl 0 rfl) ?_
  refine va_get (D := (dC, dI)) (ci := 8) (v := .ref a0_ways) (C := R_Mo) (T := T_Mo) (N := 28) hx hb htt hin_Mo hown hK hP 0 rfl rfl 15 (by decide) (htt _ kt_784) (fun _ h9 => h9) rfl d_Mo_listed_10 ?_
  refine lv_iconst (v := 1) hx hb d_Mo_listed_13 (by decide) ?_
  refine lv_aload_n hx hb d_Mo_listed_14 rfl (lv_at hl 0 rfl) ?_
  refine va_get (D := (dC, dI)) (ci := 8) (v := .int v0_nodes) (C := R_Mo) (T := T_Mo) (N := 28) hx hb htt hin_Mo hown hK hP 0 rfl rfl 1 (by decide) (htt _ kt_770) (fun _ h9 => h9) rfl d_Mo_listed_15 ?_
  refine lv_ishl hx hb d_Mo_listed_18 ?_
  refine lv_iconst (v := 1) hx hb d_Mo_listed_19 (by decide) ?_
  refine lv_isub hx hb d_Mo_listed_20 ?_
  obtain ⟨hi_7, hm⟩ := gC_e hm
  refine va_lald hx hb hK hP 4 1 rfl rfl (inb_vp hi_7) d_Mo_listed_21 ?_
  cases hm
  exact W.lret hx hb hr (fun t ht hW => ⟨⟨_, (), rfl, rfl, by rw [ht]; exact hP, va_K.moved hW.alike hK, hD⟩, hS.F ht⟩) hS.2.2 d_Mo_listed_22
theorem d_Mo_why_0 : decode prog_10_method_27_code 0 = .ok (.aload_n 0, 1) := by decide +kernel
theorem d_Mo_why_1 : decode prog_10_method_27_code 1 = .ok (.iconst 0, 1) := by decide +kernel
theorem d_Mo_why_2 : decode prog_10_method_27_code 2 = .ok (.putfield 79, 3) := by decide +kernel
theorem d_Mo_why_5 : decode prog_10_method_27_code 5 = .ok (.aload_n 0, 1) := by decide +kernel
theorem d_Mo_why_6 : decode prog_10_method_27_code 6 = .ok (.invokevirtual 136, 3) := by decide +kernel
theorem d_Mo_why_9 : decode prog_10_method_27_code 9 = .ok (.iconst 1, 1) := by decide +kernel
theorem d_Mo_why_10 : decode prog_10_method_27_code 10 = .ok (.aload_n 0, 1) := by decide +kernel
theorem d_Mo_why_11 : decode prog_10_method_27_code 11 = .ok (.getfield 86, 3) := by decide +kernel
theorem d_Mo_why_14 : decode prog_10_method_27_code 14 = .ok (.ishl, 1) := by decide +kernel
theorem d_Mo_why_15 : decode prog_10_method_27_code 15 = .ok (.iconst 1, 1) := by decide +kernel
theorem d_Mo_why_16 : decode prog_10_method_27_code 16 = .ok (.isub, 1) := by decide +kernel
theorem d_Mo_why_17 : decode prog_10_method_27_code 17 = .ok (.istore_n 1, 1) := by decide +kernel
theorem d_Mo_why_18 : decode prog_10_method_27_code 18 = .ok (.aload_n 0, 1) := by decide +kernel
theorem d_Mo_why_19 : decode prog_10_method_27_code 19 = .ok (.getfield 41, 3) := by decide +kernel
theorem d_Mo_why_22 : decode prog_10_method_27_code 22 = .ok (.iload_n 1, 1) := by decide +kernel
theorem d_Mo_why_23 : decode prog_10_method_27_code 23 = .ok (.laload, 1) := by decide +kernel
theorem d_Mo_why_24 : decode prog_10_method_27_code 24 = .ok (.lconst 0, 1) := by decide +kernel
theorem d_Mo_why_25 : decode prog_10_method_27_code 25 = .ok (.lcmp, 1) := by decide +kernel
theorem d_Mo_why_26 : decode prog_10_method_27_code 26 = .ok (.ifCond .le 5, 3) := by decide +kernel
theorem d_Mo_why_29 : decode prog_10_method_27_code 29 = .ok (.iconst 0, 1) := by decide +kernel
theorem d_Mo_why_30 : decode prog_10_method_27_code 30 = .ok (.ireturn, 1) := by decide +kernel
theorem d_Mo_why_31 : decode prog_10_method_27_code 31 = .ok (.aload_n 0, 1) := by decide +kernel
theorem d_Mo_why_32 : decode prog_10_method_27_code 32 = .ok (.getfield 86, 3) := by decide +kernel
theorem d_Mo_why_35 : decode prog_10_method_27_code 35 = .ok (.iconst 1, 1) := by decide +kernel
theorem d_Mo_why_36 : decode prog_10_method_27_code 36 = .ok (.isub, 1) := by decide +kernel
theorem d_Mo_why_37 : decode prog_10_method_27_code 37 = .ok (.istore_n 2, 1) := by decide +kernel
theorem d_Mo_why_38 : decode prog_10_method_27_code 38 = .ok (.iload_n 2, 1) := by decide +kernel
theorem d_Mo_why_39 : decode prog_10_method_27_code 39 = .ok (.ifCond .lt 34, 3) := by decide +kernel
theorem d_Mo_why_42 : decode prog_10_method_27_code 42 = .ok (.iload_n 1, 1) := by decide +kernel
theorem d_Mo_why_43 : decode prog_10_method_27_code 43 = .ok (.iconst 1, 1) := by decide +kernel
theorem d_Mo_why_44 : decode prog_10_method_27_code 44 = .ok (.iload_n 2, 1) := by decide +kernel
theorem d_Mo_why_45 : decode prog_10_method_27_code 45 = .ok (.ishl, 1) := by decide +kernel
theorem d_Mo_why_46 : decode prog_10_method_27_code 46 = .ok (.iconst (-1), 1) := by decide +kernel
theorem d_Mo_why_47 : decode prog_10_method_27_code 47 = .ok (.ixor, 1) := by decide +kernel
theorem d_Mo_why_48 : decode prog_10_method_27_code 48 = .ok (.iand, 1) := by decide +kernel
theorem d_Mo_why_49 : decode prog_10_method_27_code 49 = .ok (.istore_n 3, 1) := by decide +kernel
theorem d_Mo_why_50 : decode prog_10_method_27_code 50 = .ok (.aload_n 0, 1) := by decide +kernel
theorem d_Mo_why_51 : decode prog_10_method_27_code 51 = .ok (.getfield 41, 3) := by decide +kernel
theorem d_Mo_why_54 : decode prog_10_method_27_code 54 = .ok (.iload_n 3, 1) := by decide +kernel
theorem d_Mo_why_55 : decode prog_10_method_27_code 55 = .ok (.laload, 1) := by decide +kernel
theorem d_Mo_why_56 : decode prog_10_method_27_code 56 = .ok (.lconst 0, 1) := by decide +kernel
theorem d_Mo_why_57 : decode prog_10_method_27_code 57 = .ok (.lcmp, 1) := by decide +kernel
theorem d_Mo_why_58 : decode prog_10_method_27_code 58 = .ok (.ifCond .ne 7, 3) := by decide +kernel
theorem d_Mo_why_61 : decode prog_10_method_27_code 61 = .ok (.iload_n 3, 1) := by decide +kernel
theorem d_Mo_why_62 : decode prog_10_method_27_code 62 = .ok (.goto 4, 3) := by decide +kernel
theorem d_Mo_why_65 : decode prog_10_method_27_code 65 = .ok (.iload_n 1, 1) := by decide +kernel
theorem d_Mo_why_66 : decode prog_10_method_27_code 66 = .ok (.istore_n 1, 1) := by decide +kernel
theorem d_Mo_why_67 : decode prog_10_method_27_code 67 = .ok (.iinc 2 (-1), 3) := by decide +kernel
theorem d_Mo_why_70 : decode prog_10_method_27_code 70 = .ok (.goto (-32), 3) := by decide +kernel
theorem d_Mo_why_73 : decode prog_10_method_27_code 73 = .ok (.iload_n 1, 1) := by decide +kernel
theorem d_Mo_why_74 : decode prog_10_method_27_code 74 = .ok (.ireturn, 1) := by decide +kernel
abbrev wd_Mo_why (cI cJ cG cZ : ClassId) (a0 a0_from a0_to a0_near a0_lists a0_colours a0_shades a0_tints a0_attempt a0_taken a0_isApart a0_ways a0_next a0_splits a0_powers a0_row a0_many a0_can a0_could a0_arcRow a0_order a0_isOut : Nat) (v0_thrown : Int32) (v0_nodes : Int32) (v0_arcs : Int32) (v0_takenMany : Int32) (v0_leftBits : Int32) (v0_hasPolynomial : Int32) (v0_hasLists : Int32) (w0_near : Nat → Int32) (w0_lists : Nat → Int32) (w0_isApart : Nat → Int32) (w0_ways : Nat → Int64) (w0_next : Nat → Int64) : va_W := [(a0, .inr (8, [.int v0_thrown, .int v0_nodes, .int v0_arcs, .ref a0_from, .ref a0_to, .ref a0_near, .ref a0_lists, .ref a0_colours, .ref a0_shades, .ref a0_tints, .ref a0_attempt, .int v0_takenMany, .ref a0_taken, .int v0_leftBits, .ref a0_isApart, .ref a0_ways, .ref a0_next, .ref a0_splits, .ref a0_powers, .ref a0_row, .ref a0_many, .int v0_hasPolynomial, .int v0_hasLists, .ref a0_can, .ref a0_could, .ref a0_arcRow, .ref a0_order, .ref a0_isOut])), (a0_near, .inl (cI, 12, .inl w0_near)), (a0_lists, .inl (cI, 12, .inl w0_lists)), (a0_isApart, .inl (cZ, 4096, .inl w0_isApart)), (a0_ways, .inl (cJ, 4096, .inr (.inl w0_ways))), (a0_next, .inl (cJ, 4096, .inr (.inl w0_next)))]
abbrev us_Mo_why : List Cond := .code y_Mo_why prog_10_method_27_code 4 (some .int) :: gtbl
abbrev rm_Mo_why : Room := { frames := 2, cells := 0, slots := 0, locals := 52 }
def m_Mo_why (F : Nat) (v0_thrown : Int32) (v0_nodes : Int32) (v0_arcs : Int32) (v0_takenMany : Int32) (v0_leftBits : Int32) (v0_hasPolynomial : Int32) (v0_hasLists : Int32) (w0_near : Nat → Int32) (w0_lists : Nat → Int32) (w0_isApart : Nat → Int32) (w0_ways : Nat → Int64) (w0_next : Nat → Int64) : Option (Int32 × Int32 × Int32 × (Nat → Int32) × (Nat → Int64) × (Nat → Int64)) :=
  gM (m_Mo_byLists F 0 v0_nodes v0_arcs v0_takenMany v0_leftBits v0_hasPolynomial v0_hasLists w0_near w0_lists w0_isApart w0_ways w0_next) (fun (z_6 : Int32 × (Nat → Int32) × (Nat → Int64) × (Nat → Int64)) => match z_6 with
  | (v0_hasLists_1, w0_isApart_2, w0_ways_3, w0_next_4) =>
  gB (((1 : Int32) <<< (v0_nodes &&& 31)) - 1) (fun x1_7 =>
  gC (inb x1_7 4096) (
  if (lg_cmp (w0_ways_3 x1_7.toNatClampNeg) 0) ≤ 0 then (
    gB (v0_nodes - 1) (fun x2_10 =>
    gL (fun (k_38 : (Int32 × Int32) → Option (Int32 × Int32 × Int32 × (Nat → Int32) × (Nat → Int64) × (Nat → Int64))) (z_38 : Int32 × Int32) => match z_38 with
    | (x1_11, x2_12) =>
    if x2_12 < 0 then (
      some (x1_11, 0, v0_hasLists_1, w0_isApart_2, w0_ways_3, w0_next_4)
    ) else (
      gB (x1_11 &&& (((1 : Int32) <<< (x2_12 &&& 31)) ^^^ (-1))) (fun x3_14 =>
      gC (inb x3_14 4096) (
      if (lg_cmp (w0_ways_3 x3_14.toNatClampNeg) 0) = 0 then (
        gB (x2_12 + (-1)) (fun x2_18 =>
        k_38 (x3_14, x2_18))
      ) else (
        gB (x2_12 + (-1)) (fun x2_17 =>
        k_38 (x1_11, x2_17))
      )))
    )
    ) F (x1_7, x2_10))
  ) else (
    some (0, 0, v0_hasLists_1, w0_isApart_2, w0_ways_3, w0_next_4)
  ))))
set_option maxHeartbeats 4000000 in
set_option maxRecDepth 100000 in
theorem c_Mo_why (l : Launch) (dC : Nat → ClassId) (dI : Nat → Nat → Nat) (cI cJ cG cZ : ClassId) (a0 a0_from a0_to a0_near a0_lists a0_colours a0_shades a0_tints a0_attempt a0_taken a0_isApart a0_ways a0_next a0_splits a0_powers a0_row a0_many a0_can a0_could a0_arcRow a0_order a0_isOut : Nat) (sz : Nat) (F : Nat) (v0_thrown : Int32) (v0_nodes : Int32) (v0_arcs : Int32) (v0_takenMany : Int32) (v0_leftBits : Int32) (v0_hasPolynomial : Int32) (v0_hasLists : Int32) (w0_near : Nat → Int32) (w0_lists : Nat → Int32) (w0_isApart : Nat → Int32) (w0_ways : Nat → Int64) (w0_next : Nat → Int64) (ret : Int32) (o_v0_thrown : Int32) (o_v0_hasLists : Int32) (o_w0_isApart : Nat → Int32) (o_w0_ways : Nat → Int64) (o_w0_next : Nat → Int64) (hm : m_Mo_why F v0_thrown v0_nodes v0_arcs v0_takenMany v0_leftBits v0_hasPolynomial v0_hasLists w0_near w0_lists w0_isApart w0_ways w0_next = some (ret, o_v0_thrown, o_v0_hasLists, o_w0_isApart, o_w0_ways, o_w0_next)) : Met l y_Mo_why us_Mo_why rm_Mo_why (PcS (dC, dI) (tyL cI cJ cG cZ) [.ref a0] sz (wd_Mo_why cI cJ cG cZ a0 a0_from a0_to a0_near a0_lists a0_colours a0_shades a0_tints a0_attempt a0_taken a0_isApart a0_ways a0_next a0_splits a0_powers a0_row a0_many a0_can a0_could a0_arcRow a0_order a0_isOut v0_thrown v0_nodes v0_arcs v0_takenMany v0_leftBits v0_hasPolynomial v0_hasLists w0_near w0_lists w0_isApart w0_ways w0_next)) (va_Qi (fun (r : Int32) (_ : Unit) => ret = r) (fun _ t => PoS (dC, dI) (tyL cI cJ cG cZ) (wd_Mo_why cI cJ cG cZ a0 a0_from a0_to a0_near a0_lists a0_colours a0_shades a0_tints a0_attempt a0_taken a0_isApart a0_ways a0_next a0_splits a0_powers a0_row a0_many a0_can a0_could a0_arcRow a0_order a0_isOut o_v0_thrown v0_nodes v0_arcs v0_takenMany v0_leftBits v0_hasPolynomial o_v0_hasLists w0_near w0_lists o_w0_isApart o_w0_ways o_w0_next) (va_A (wd_Mo_why cI cJ cG cZ a0 a0_from a0_to a0_near a0_lists a0_colours a0_shades a0_tints a0_attempt a0_taken a0_isApart a0_ways a0_next a0_splits a0_powers a0_row a0_many a0_can a0_could a0_arcRow a0_order a0_isOut v0_thrown v0_nodes v0_arcs v0_takenMany v0_leftBits v0_hasPolynomial v0_hasLists w0_near w0_lists w0_isApart w0_ways w0_next) sz) t) (va_A (wd_Mo_why cI cJ cG cZ a0 a0_from a0_to a0_near a0_lists a0_colours a0_shades a0_tints a0_attempt a0_taken a0_isApart a0_ways a0_next a0_splits a0_powers a0_row a0_many a0_can a0_could a0_arcRow a0_order a0_isOut v0_thrown v0_nodes v0_arcs v0_takenMany v0_leftBits v0_hasPolynomial v0_hasLists w0_near w0_lists w0_isApart w0_ways w0_next) sz)) 0 0 (va_A (wd_Mo_why cI cJ cG cZ a0 a0_from a0_to a0_near a0_lists a0_colours a0_shades a0_tints a0_attempt a0_taken a0_isApart a0_ways a0_next a0_splits a0_powers a0_row a0_many a0_can a0_could a0_arcRow a0_order a0_isOut v0_thrown v0_nodes v0_arcs v0_takenMany v0_leftBits v0_hasPolynomial v0_hasLists w0_near w0_lists w0_isApart w0_ways w0_next) sz) := by
  refine Met.ofW (cc := prog_10_method_27_code) (maxL := 4) (ret := (some .int)) (by decide) rfl ?_
  intro p e s m args below meth c s₁ B hml hv
  obtain ⟨rfl, hsz, hP, hK, hD0, hNw⟩ := hv
  have hx := B.exec
  have hb := B.bytes
  have hr := B.returns
  have htt : ∀ w ∈ gtbl, w.before _ s = true := fun w h => atoms_spec (ws := us_Mo_why) B.pre w (List.mem_cons_of_mem _ h)
  have hown : s.vm.findClass R_Mo = some m.cls := findClass_of_methodNamed B.named
  have hlocks := B.notSynchronized
  subst hsz
  have hD := hD0.self (sz := s.heap.size)
  generalize hAe : va_A (wd_Mo_why cI cJ cG cZ a0 a0_from a0_to a0_near a0_lists a0_colours a0_shades a0_tints a0_attempt a0_taken a0_isApart a0_ways a0_next a0_splits a0_powers a0_row a0_many a0_can a0_could a0_arcRow a0_order a0_isOut v0_thrown v0_nodes v0_arcs v0_takenMany v0_leftBits v0_hasPolynomial v0_hasLists w0_near w0_lists w0_isApart w0_ways w0_next) s.heap.size = A at hD ⊢
  have hA : ∀ q : Nat, s.heap.size ≤ q → A q := fun q h => by rw [← hAe]; exact Or.inr h
  clear hAe hD0
  have hS : va_S A s.heap s.heap [] := va_S.rf
  have hl := lv_entry ([.ref a0]) (n := 4) (Nat.le_of_ble_eq_true rfl)
  rw [lg_entry_eq]
  generalize (lg_sl ([.ref a0]) ++ List.replicate (4 - (lg_sl ([.ref a0])).length) Slot.unset).toArray = ls at hl ⊢
  have hl : lv_has ls 4 [(0, .ref a0)] := hl
  generalize hH : s.heap = H at hP ⊢
  have hS : va_S A s.heap H [] := hH ▸ hS
  generalize hLo : ([] : List Loc) = locs at hS ⊢
  clear hH hLo
  unfold m_Mo_why at hm
  refine lv_aload_n hx hb d_Mo_why_0 rfl (lv_at hl 0 rfl) ?_
  refine lv_iconst (v := 0) hx hb d_Mo_why_1 (by decide) ?_
  refine va_put (D := (dC, dI)) (ci := 8) (v := .int 0) (ty := .int) (C := R_Mo) (T := T_Mo) (N := 28) hx hb htt hin_Mo ty_Mo tyok_Mo nm_Mo hown hK hP hD hS 0 rfl rfl 0 (by decide) (htt _ kt_769) (fun _ h9 => h9) rfl (by decide +kernel) rfl rfl (Nat.le_of_ble_eq_true rfl) d_Mo_why_2 (fun H locs hP hD hS => ?_)
  have hP : va_P (dC, dI) vwCl (wd_Mo_why cI cJ cG cZ a0 a0_from a0_to a0_near a0_lists a0_colours a0_shades a0_tints a0_attempt a0_taken a0_isApart a0_ways a0_next a0_splits a0_powers a0_row a0_many a0_can a0_could a0_arcRow a0_order a0_isOut 0 v0_nodes v0_arcs v0_takenMany v0_leftBits v0_hasPolynomial v0_hasLists w0_near w0_lists w0_isApart w0_ways w0_next) H := hP
  have hD : va_D A (wd_Mo_why cI cJ cG cZ a0 a0_from a0_to a0_near a0_lists a0_colours a0_shades a0_tints a0_attempt a0_taken a0_isApart a0_ways a0_next a0_splits a0_powers a0_row a0_many a0_can a0_could a0_arcRow a0_order a0_isOut 0 v0_nodes v0_arcs v0_takenMany v0_leftBits v0_hasPolynomial v0_hasLists w0_near w0_lists w0_isApart w0_ways w0_next) := hD
  refine lv_aload_n hx hb d_Mo_why_5 rfl (lv_at hl 0 rfl) ?_
  obtain ⟨⟨v0_hasLists_1, w0_isApart_2, w0_ways_3, w0_next_4⟩, hc_5, hm⟩ := gM_e hm
  dsimp only at hm
  have hPc : va_P (dC, dI) vwCl (wd_Mo_byLists cI cJ cG cZ a0 a0_from a0_to a0_near a0_lists a0_colours a0_shades a0_tints a0_attempt a0_taken a0_isApart a0_ways a0_next a0_splits a0_powers a0_row a0_many a0_can a0_could a0_arcRow a0_order a0_isOut 0 v0_nodes v0_arcs v0_takenMany v0_leftBits v0_hasPolynomial v0_hasLists w0_near w0_lists w0_isApart w0_ways w0_next) H := hP.sub [0, 1, 2, 3, 4, 5] rfl
  have hDc : va_D A (wd_Mo_byLists cI cJ cG cZ a0 a0_from a0_to a0_near a0_lists a0_colours a0_shades a0_tints a0_attempt a0_taken a0_isApart a0_ways a0_next a0_splits a0_powers a0_row a0_many a0_can a0_could a0_arcRow a0_order a0_isOut 0 v0_nodes v0_arcs v0_takenMany v0_leftBits v0_hasPolynomial v0_hasLists w0_near w0_lists w0_isApart w0_ways w0_next) := hD.sub [0, 1, 2, 3, 4, 5] (by decide) rfl
  have hFc : ∀ q, va_A (wd_Mo_byLists cI cJ cG cZ a0 a0_from a0_to a0_near a0_lists a0_colours a0_shades a0_tints a0_attempt a0_taken a0_isApart a0_ways a0_next a0_splits a0_powers a0_row a0_many a0_can a0_could a0_arcRow a0_order a0_isOut 0 v0_nodes v0_arcs v0_takenMany v0_leftBits v0_hasPolynomial v0_hasLists w0_near w0_lists w0_isApart w0_ways w0_next) H.size q → A q := va_free hD hS hA [0, 1, 2, 3, 4, 5] rfl
  refine va_callv (va_runV (As := []) (rest := []) ⟨hx, hb, hml, hown, htt⟩ (c_Mo_byLists l dC dI cI cJ cG cZ a0 a0_from a0_to a0_near a0_lists a0_colours a0_shades a0_tints a0_attempt a0_taken a0_isApart a0_ways a0_next a0_splits a0_powers a0_row a0_many a0_can a0_could a0_arcRow a0_order a0_isOut H.size F 0 v0_nodes v0_arcs v0_takenMany v0_leftBits v0_hasPolynomial v0_hasLists w0_near w0_lists w0_isApart w0_ways w0_next v0_hasLists_1 w0_isApart_2 w0_ways_3 w0_next_4 hc_5) (cwV 0 htt (gdV kt_940 kt_942 kp_52 kt_10 kt_943) rfl rfl rfl (by decide +kernel) ⟨(Nat.le_of_ble_eq_true rfl), (Nat.le_of_ble_eq_true rfl)⟩) ⟨PcS_blind, va_recv hK hPc (ci := 8) (q0 := 0) rfl rfl, PcS_in hPc hK hDc hNw⟩ rfl rfl hl.1 rfl (lv_room (Nat.le_of_ble_eq_true rfl)) d_Mo_why_6 ⟨Nat.zero_le _, Nat.zero_le _⟩) hS (fun q _ h => hFc q h) hFc (fun u t H1 locs ht hvm hw hB hz1 hk1 hS => ?_)
  obtain ⟨hP1, hK1, hD1⟩ := hB
  rw [ht] at hP1
  obtain ⟨hP, hD⟩ := va_join (wr := []) (w1 := (wd_Mo_byLists cI cJ cG cZ a0 a0_from a0_to a0_near a0_lists a0_colours a0_shades a0_tints a0_attempt a0_taken a0_isApart a0_ways a0_next a0_splits a0_powers a0_row a0_many a0_can a0_could a0_arcRow a0_order a0_isOut 0 v0_nodes v0_arcs v0_takenMany v0_leftBits v0_hasPolynomial v0_hasLists_1 w0_near w0_lists w0_isApart_2 w0_ways_3 w0_next_4)) hP hD [0, 1, 2, 3, 4, 5] [] rfl rfl (by decide) (by decide) hk1 hFc hP1 hD1
  have hP : va_P (dC, dI) vwCl (wd_Mo_why cI cJ cG cZ a0 a0_from a0_to a0_near a0_lists a0_colours a0_shades a0_tints a0_attempt a0_taken a0_isApart a0_ways a0_next a0_splits a0_powers a0_row a0_many a0_can a0_could a0_arcRow a0_order a0_isOut 0 v0_nodes v0_arcs v0_takenMany v0_leftBits v0_hasPolynomial v0_hasLists_1 w0_near w0_lists w0_isApart_2 w0_ways_3 w0_next_4) H1 := hP.sub [0, 1, 2, 3, 4, 5] rfl
  have hD : va_D A (wd_Mo_why cI cJ cG cZ a0 a0_from a0_to a0_near a0_lists a0_colours a0_shades a0_tints a0_attempt a0_taken a0_isApart a0_ways a0_next a0_splits a0_powers a0_row a0_many a0_can a0_could a0_arcRow a0_order a0_isOut 0 v0_nodes v0_arcs v0_takenMany v0_leftBits v0_hasPolynomial v0_hasLists_1 w0_near w0_lists w0_isApart_2 w0_ways_3 w0_next_4) := hD.sub [0, 1, 2, 3, 4, 5] (by decide) rfl
  clear hP1 hK1 hD1 hk1 hPc hDc hFc ht hvm hz1
  generalize H1 = H at hP hS ⊢
  refine lv_iconst (v := 1) hx hb d_Mo_why_9 (by decide) ?_
  refine lv_aload_n hx hb d_Mo_why_10 rfl (lv_at hl 0 rfl) ?_
  refine va_get (D := (dC, dI)) (ci := 8) (v := .int v0_nodes) (C := R_Mo) (T := T_Mo) (N := 28) hx hb htt hin_Mo hown hK hP 0 rfl rfl 1 (by decide) (htt _ kt_770) (fun _ h9 => h9) rfl d_Mo_why_11 ?_
  refine lv_ishl hx hb d_Mo_why_14 ?_
  refine lv_iconst (v := 1) hx hb d_Mo_why_15 (by decide) ?_
  refine lv_isub hx hb d_Mo_why_16 ?_
  refine lv_topi (fun x1_7 ex1_7 => ?_)
  have hm := gB_at ex1_7 hm
  refine lv_istore_n (lv' := [(1, .int x1_7), (0, .ref a0)]) hx hb d_Mo_why_17 rfl hl (by decide) rfl (fun ls hl => ?_)
  refine lv_aload_n hx hb d_Mo_why_18 rfl (lv_at hl 1 rfl) ?_
  refine va_get (D := (dC, dI)) (ci := 8) (v := .ref a0_ways) (C := R_Mo) (T := T_Mo) (N := 28) hx hb htt hin_Mo hown hK hP 0 rfl rfl 15 (by decide) (htt _ kt_784) (fun _ h9 => h9) rfl d_Mo_why_19 ?_
  refine lv_iload_n hx hb d_Mo_why_22 rfl (lv_at hl 0 rfl) ?_
  obtain ⟨hi_8, hm⟩ := gC_e hm
  refine va_lald hx hb hK hP 4 1 rfl rfl (inb_vp hi_8) d_Mo_why_23 ?_
  refine lv_lconst (v := 0) hx hb d_Mo_why_24 (by decide) ?_
  refine W.lcmp hx hb d_Mo_why_25 ?_
  refine lv_if_le (tgt := 31) hx hb d_Mo_why_26 (by decide) (fun c_9 => ?_) (fun c_9 => ?_)
  · have hm := ite_t c_9 hm
    refine lv_aload_n hx hb d_Mo_why_31 rfl (lv_at hl 1 rfl) ?_
    refine va_get (D := (dC, dI)) (ci := 8) (v := .int v0_nodes) (C := R_Mo) (T := T_Mo) (N := 28) hx hb htt hin_Mo hown hK hP 0 rfl rfl 1 (by decide) (htt _ kt_770) (fun _ h9 => h9) rfl d_Mo_why_32 ?_
    refine lv_iconst (v := 1) hx hb d_Mo_why_35 (by decide) ?_
    refine lv_isub hx hb d_Mo_why_36 ?_
    refine lv_topi (fun x2_10 ex2_10 => ?_)
    have hm := gB_at ex2_10 hm
    refine lv_istore_n (lv' := [(2, .int x2_10), (1, .int x1_7), (0, .ref a0)]) hx hb d_Mo_why_37 rfl hl (by decide) rfl (fun ls hl => ?_)
    refine gL_e (P := (fun (z_38 : Int32 × Int32) => ∀ (x1_11 : Int32), ∀ (x2_12 : Int32), z_38 = (x1_11, x2_12) → ∀ (ls : Array Slot) (H : Heap) (locs : List Loc), lv_has ls 4 [(0, .ref a0), (1, .int x1_11), (2, .int x2_12)] → va_P (dC, dI) vwCl (wd_Mo_why cI cJ cG cZ a0 a0_from a0_to a0_near a0_lists a0_colours a0_shades a0_tints a0_attempt a0_taken a0_isApart a0_ways a0_next a0_splits a0_powers a0_row a0_many a0_can a0_could a0_arcRow a0_order a0_isOut 0 v0_nodes v0_arcs v0_takenMany v0_leftBits v0_hasPolynomial v0_hasLists_1 w0_near w0_lists w0_isApart_2 w0_ways_3 w0_next_4) H → va_D A (wd_Mo_why cI cJ cG cZ a0 a0_from a0_to a0_near a0_lists a0_colours a0_shades a0_tints a0_attempt a0_taken a0_isApart a0_ways a0_next a0_splits a0_powers a0_row a0_many a0_can a0_could a0_arcRow a0_order a0_isOut 0 v0_nodes v0_arcs v0_takenMany v0_leftBits v0_hasPolynomial v0_hasLists_1 w0_near w0_lists w0_isApart_2 w0_ways_3 w0_next_4) → va_S A s.heap H locs → W p l e (headSpec us_Mo_why rm_Mo_why).room s m ([.ref a0] : List Value).toArray below meth c H locs 0 0 (MQ below (va_Qi (fun (r : Int32) (_ : Unit) => ret = r) (fun _ t => PoS (dC, dI) (tyL cI cJ cG cZ) (wd_Mo_why cI cJ cG cZ a0 a0_from a0_to a0_near a0_lists a0_colours a0_shades a0_tints a0_attempt a0_taken a0_isApart a0_ways a0_next a0_splits a0_powers a0_row a0_many a0_can a0_could a0_arcRow a0_order a0_isOut o_v0_thrown v0_nodes v0_arcs v0_takenMany v0_leftBits v0_hasPolynomial o_v0_hasLists w0_near w0_lists o_w0_isApart o_w0_ways o_w0_next) A t) A) ([.ref a0] : List Value).toArray s 0 0 A) (F0 m 38 ls []))) hm (fun k_38 z_38 ih_38 hm => ?_) _ _ rfl ls H locs (lv_sub hl [2, 1, 0] rfl) hP hD hS
    intro x1_11 x2_12 hz ls H locs hl hP hD hS
    subst hz
    dsimp only at hm
    refine lv_iload_n hx hb d_Mo_why_38 rfl (lv_at hl 2 rfl) ?_
    refine lv_if_lt (tgt := 73) hx hb d_Mo_why_39 (by decide) (fun c_13 => ?_) (fun c_13 => ?_)
    · have hm := ite_t c_13 hm
      refine lv_iload_n hx hb d_Mo_why_73 rfl (lv_at hl 1 rfl) ?_
      cases hm
      exact W.iret hx hb hr (fun t ht hW => ⟨⟨_, (), rfl, rfl, by rw [ht]; exact hP, va_K.moved hW.alike hK, hD⟩, hS.F ht⟩) hS.2.2 d_Mo_why_74
    · have hm := ite_f c_13 hm
      refine lv_iload_n hx hb d_Mo_why_42 rfl (lv_at hl 1 rfl) ?_
      refine lv_iconst (v := 1) hx hb d_Mo_why_43 (by decide) ?_
      refine lv_iload_n hx hb d_Mo_why_44 rfl (lv_at hl 2 rfl) ?_
      refine lv_ishl hx hb d_Mo_why_45 ?_
      refine lv_iconst (v := (-1)) hx hb d_Mo_why_46 (by decide) ?_
      refine lv_ixor hx hb d_Mo_why_47 ?_
      refine lv_iand hx hb d_Mo_why_48 ?_
      refine lv_topi (fun x3_14 ex3_14 => ?_)
      have hm := gB_at ex3_14 hm
      refine lv_istore_n (lv' := [(3, .int x3_14), (0, .ref a0), (1, .int x1_11), (2, .int x2_12)]) hx hb d_Mo_why_49 rfl hl (by decide) rfl (fun ls hl => ?_)
      refine lv_aload_n hx hb d_Mo_why_50 rfl (lv_at hl 1 rfl) ?_
      refine va_get (D := (dC, dI)) (ci := 8) (v := .ref a0_ways) (C := R_Mo) (T := T_Mo) (N := 28) hx hb htt hin_Mo hown hK hP 0 rfl rfl 15 (by decide) (htt _ kt_784) (fun _ h9 => h9) rfl d_Mo_why_51 ?_
      refine lv_iload_n hx hb d_Mo_why_54 rfl (lv_at hl 0 rfl) ?_
      obtain ⟨hi_15, hm⟩ := gC_e hm
      refine va_lald hx hb hK hP 4 1 rfl rfl (inb_vp hi_15) d_Mo_why_55 ?_
      refine lv_lconst (v := 0) hx hb d_Mo_why_56 (by decide) ?_
      refine W.lcmp hx hb d_Mo_why_57 ?_
      refine lv_if_ne (tgt := 65) hx hb d_Mo_why_58 (by decide) (fun c_16 => ?_) (fun c_16 => ?_)
      · have hm := ite_f c_16 hm
        refine lv_iload_n hx hb d_Mo_why_65 rfl (lv_at hl 2 rfl) ?_
        refine lv_istore_n (lv' := [(1, .int x1_11), (3, .int x3_14), (0, .ref a0), (2, .int x2_12)]) hx hb d_Mo_why_66 rfl hl (by decide) rfl (fun ls hl => ?_)
        obtain ⟨x2_17, ex2_17⟩ : ∃ y : Int32, y = x2_12 + (-1) := ⟨_, rfl⟩
        have hm := gB_at ex2_17 hm
        refine lv_iinc (v := x2_17) (lv' := [(2, .int x2_17), (1, .int x1_11), (3, .int x3_14), (0, .ref a0)]) hx hb d_Mo_why_67 hl (k := 3) rfl (by rw [ex2_17]; rfl) (by decide) rfl (fun ls hl => ?_)
        refine lv_goto (tgt := 38) hx hb d_Mo_why_70 (by decide) ?_
        exact ih_38 _ hm _ _ rfl ls H locs (lv_sub hl [3, 1, 0] rfl) hP hD hS
      · have hm := ite_t c_16 hm
        refine lv_iload_n hx hb d_Mo_why_61 rfl (lv_at hl 0 rfl) ?_
        refine lv_goto (tgt := 66) hx hb d_Mo_why_62 (by decide) ?_
        refine lv_istore_n (lv' := [(1, .int x3_14), (3, .int x3_14), (0, .ref a0), (2, .int x2_12)]) hx hb d_Mo_why_66 rfl hl (by decide) rfl (fun ls hl => ?_)
        obtain ⟨x2_18, ex2_18⟩ : ∃ y : Int32, y = x2_12 + (-1) := ⟨_, rfl⟩
        have hm := gB_at ex2_18 hm
        refine lv_iinc (v := x2_18) (lv' := [(2, .int x2_18), (1, .int x3_14), (3, .int x3_14), (0, .ref a0)]) hx hb d_Mo_why_67 hl (k := 3) rfl (by rw [ex2_18]; rfl) (by decide) rfl (fun ls hl => ?_)
        refine lv_goto (tgt := 38) hx hb d_Mo_why_70 (by decide) ?_
        exact ih_38 _ hm _ _ rfl ls H locs (lv_sub hl [3, 1, 0] rfl) hP hD hS
  · have hm := ite_f c_9 hm
    refine lv_iconst (v := 0) hx hb d_Mo_why_29 (by decide) ?_
    cases hm
    exact W.iret hx hb hr (fun t ht hW => ⟨⟨_, (), rfl, rfl, by rw [ht]; exact hP, va_K.moved hW.alike hK, hD⟩, hS.F ht⟩) hS.2.2 d_Mo_why_30
theorem d_Mo_meet_0 : decode prog_10_method_28_code 0 = .ok (.aload_n 0, 1) := by decide +kernel
theorem d_Mo_meet_1 : decode prog_10_method_28_code 1 = .ok (.getfield 7, 3) := by decide +kernel
theorem d_Mo_meet_4 : decode prog_10_method_28_code 4 = .ok (.iload_n 1, 1) := by decide +kernel
theorem d_Mo_meet_5 : decode prog_10_method_28_code 5 = .ok (.iaload, 1) := by decide +kernel
theorem d_Mo_meet_6 : decode prog_10_method_28_code 6 = .ok (.aload_n 0, 1) := by decide +kernel
theorem d_Mo_meet_7 : decode prog_10_method_28_code 7 = .ok (.getfield 7, 3) := by decide +kernel
theorem d_Mo_meet_10 : decode prog_10_method_28_code 10 = .ok (.iload_n 2, 1) := by decide +kernel
theorem d_Mo_meet_11 : decode prog_10_method_28_code 11 = .ok (.iaload, 1) := by decide +kernel
theorem d_Mo_meet_12 : decode prog_10_method_28_code 12 = .ok (.if_icmp .eq 48, 3) := by decide +kernel
theorem d_Mo_meet_15 : decode prog_10_method_28_code 15 = .ok (.aload_n 0, 1) := by decide +kernel
theorem d_Mo_meet_16 : decode prog_10_method_28_code 16 = .ok (.getfield 7, 3) := by decide +kernel
theorem d_Mo_meet_19 : decode prog_10_method_28_code 19 = .ok (.iload_n 1, 1) := by decide +kernel
theorem d_Mo_meet_20 : decode prog_10_method_28_code 20 = .ok (.iaload, 1) := by decide +kernel
theorem d_Mo_meet_21 : decode prog_10_method_28_code 21 = .ok (.aload_n 0, 1) := by decide +kernel
theorem d_Mo_meet_22 : decode prog_10_method_28_code 22 = .ok (.getfield 13, 3) := by decide +kernel
theorem d_Mo_meet_25 : decode prog_10_method_28_code 25 = .ok (.iload_n 2, 1) := by decide +kernel
theorem d_Mo_meet_26 : decode prog_10_method_28_code 26 = .ok (.iaload, 1) := by decide +kernel
theorem d_Mo_meet_27 : decode prog_10_method_28_code 27 = .ok (.if_icmp .eq 33, 3) := by decide +kernel
theorem d_Mo_meet_30 : decode prog_10_method_28_code 30 = .ok (.aload_n 0, 1) := by decide +kernel
theorem d_Mo_meet_31 : decode prog_10_method_28_code 31 = .ok (.getfield 13, 3) := by decide +kernel
theorem d_Mo_meet_34 : decode prog_10_method_28_code 34 = .ok (.iload_n 1, 1) := by decide +kernel
theorem d_Mo_meet_35 : decode prog_10_method_28_code 35 = .ok (.iaload, 1) := by decide +kernel
theorem d_Mo_meet_36 : decode prog_10_method_28_code 36 = .ok (.aload_n 0, 1) := by decide +kernel
theorem d_Mo_meet_37 : decode prog_10_method_28_code 37 = .ok (.getfield 7, 3) := by decide +kernel
theorem d_Mo_meet_40 : decode prog_10_method_28_code 40 = .ok (.iload_n 2, 1) := by decide +kernel
theorem d_Mo_meet_41 : decode prog_10_method_28_code 41 = .ok (.iaload, 1) := by decide +kernel
theorem d_Mo_meet_42 : decode prog_10_method_28_code 42 = .ok (.if_icmp .eq 18, 3) := by decide +kernel
theorem d_Mo_meet_45 : decode prog_10_method_28_code 45 = .ok (.aload_n 0, 1) := by decide +kernel
theorem d_Mo_meet_46 : decode prog_10_method_28_code 46 = .ok (.getfield 13, 3) := by decide +kernel
theorem d_Mo_meet_49 : decode prog_10_method_28_code 49 = .ok (.iload_n 1, 1) := by decide +kernel
theorem d_Mo_meet_50 : decode prog_10_method_28_code 50 = .ok (.iaload, 1) := by decide +kernel
theorem d_Mo_meet_51 : decode prog_10_method_28_code 51 = .ok (.aload_n 0, 1) := by decide +kernel
theorem d_Mo_meet_52 : decode prog_10_method_28_code 52 = .ok (.getfield 13, 3) := by decide +kernel
theorem d_Mo_meet_55 : decode prog_10_method_28_code 55 = .ok (.iload_n 2, 1) := by decide +kernel
theorem d_Mo_meet_56 : decode prog_10_method_28_code 56 = .ok (.iaload, 1) := by decide +kernel
theorem d_Mo_meet_57 : decode prog_10_method_28_code 57 = .ok (.if_icmp .ne 7, 3) := by decide +kernel
theorem d_Mo_meet_60 : decode prog_10_method_28_code 60 = .ok (.iconst 1, 1) := by decide +kernel
theorem d_Mo_meet_61 : decode prog_10_method_28_code 61 = .ok (.goto 4, 3) := by decide +kernel
theorem d_Mo_meet_64 : decode prog_10_method_28_code 64 = .ok (.iconst 0, 1) := by decide +kernel
theorem d_Mo_meet_65 : decode prog_10_method_28_code 65 = .ok (.ireturn, 1) := by decide +kernel
abbrev wd_Mo_meet (cI cJ cG cZ : ClassId) (a0 a0_from a0_to a0_near a0_lists a0_colours a0_shades a0_tints a0_attempt a0_taken a0_isApart a0_ways a0_next a0_splits a0_powers a0_row a0_many a0_can a0_could a0_arcRow a0_order a0_isOut : Nat) (v0_thrown : Int32) (v0_nodes : Int32) (v0_arcs : Int32) (v0_takenMany : Int32) (v0_leftBits : Int32) (v0_hasPolynomial : Int32) (v0_hasLists : Int32) (w0_from : Nat → Int32) (w0_to : Nat → Int32) : va_W := [(a0, .inr (8, [.int v0_thrown, .int v0_nodes, .int v0_arcs, .ref a0_from, .ref a0_to, .ref a0_near, .ref a0_lists, .ref a0_colours, .ref a0_shades, .ref a0_tints, .ref a0_attempt, .int v0_takenMany, .ref a0_taken, .int v0_leftBits, .ref a0_isApart, .ref a0_ways, .ref a0_next, .ref a0_splits, .ref a0_powers, .ref a0_row, .ref a0_many, .int v0_hasPolynomial, .int v0_hasLists, .ref a0_can, .ref a0_could, .ref a0_arcRow, .ref a0_order, .ref a0_isOut])), (a0_from, .inl (cI, 40, .inl w0_from)), (a0_to, .inl (cI, 40, .inl w0_to))]
abbrev us_Mo_meet : List Cond := .code y_Mo_meet prog_10_method_28_code 3 (some .boolean) :: gtbl
abbrev rm_Mo_meet : Room := { frames := 0, cells := 0, slots := 0, locals := 0 }
def m_Mo_meet (F : Nat) (v0_thrown : Int32) (v0_nodes : Int32) (v0_arcs : Int32) (v0_takenMany : Int32) (v0_leftBits : Int32) (v0_hasPolynomial : Int32) (v0_hasLists : Int32) (w0_from : Nat → Int32) (w0_to : Nat → Int32) (p1 : Int32) (p2 : Int32) : Option (Int32) :=
  gC (inb p1 40) (
  gC (inb p2 40) (
  gB (α := Option (Int32)) (
    some 1
  ) (fun J_60 =>
  if (w0_from p1.toNatClampNeg) = (w0_from p2.toNatClampNeg) then (
    J_60
  ) else (
    gC (inb p1 40) (
    gC (inb p2 40) (
    if (w0_from p1.toNatClampNeg) = (w0_to p2.toNatClampNeg) then (
      J_60
    ) else (
      gC (inb p1 40) (
      gC (inb p2 40) (
      if (w0_to p1.toNatClampNeg) = (w0_from p2.toNatClampNeg) then (
        J_60
      ) else (
        gC (inb p1 40) (
        gC (inb p2 40) (
        if (w0_to p1.toNatClampNeg) = (w0_to p2.toNatClampNeg) then (
          J_60
        ) else (
          some 0
        )))
      )))
    )))
  )
  )))
set_option maxHeartbeats 4000000 in
set_option maxRecDepth 100000 in
theorem c_Mo_meet (l : Launch) (dC : Nat → ClassId) (dI : Nat → Nat → Nat) (cI cJ cG cZ : ClassId) (a0 a0_from a0_to a0_near a0_lists a0_colours a0_shades a0_tints a0_attempt a0_taken a0_isApart a0_ways a0_next a0_splits a0_powers a0_row a0_many a0_can a0_could a0_arcRow a0_order a0_isOut : Nat) (sz : Nat) (F : Nat) (v0_thrown : Int32) (v0_nodes : Int32) (v0_arcs : Int32) (v0_takenMany : Int32) (v0_leftBits : Int32) (v0_hasPolynomial : Int32) (v0_hasLists : Int32) (w0_from : Nat → Int32) (w0_to : Nat → Int32) (p1 : Int32) (p2 : Int32) (ret : Int32) (hm : m_Mo_meet F v0_thrown v0_nodes v0_arcs v0_takenMany v0_leftBits v0_hasPolynomial v0_hasLists w0_from w0_to p1 p2 = some ret) : Met l y_Mo_meet us_Mo_meet rm_Mo_meet (PcS (dC, dI) (tyL cI cJ cG cZ) [.ref a0, .int p1, .int p2] sz (wd_Mo_meet cI cJ cG cZ a0 a0_from a0_to a0_near a0_lists a0_colours a0_shades a0_tints a0_attempt a0_taken a0_isApart a0_ways a0_next a0_splits a0_powers a0_row a0_many a0_can a0_could a0_arcRow a0_order a0_isOut v0_thrown v0_nodes v0_arcs v0_takenMany v0_leftBits v0_hasPolynomial v0_hasLists w0_from w0_to)) (va_Qi (fun (r : Int32) (_ : Unit) => ret = r ∧ bz r) (fun _ t => PoS (dC, dI) (tyL cI cJ cG cZ) (wd_Mo_meet cI cJ cG cZ a0 a0_from a0_to a0_near a0_lists a0_colours a0_shades a0_tints a0_attempt a0_taken a0_isApart a0_ways a0_next a0_splits a0_powers a0_row a0_many a0_can a0_could a0_arcRow a0_order a0_isOut v0_thrown v0_nodes v0_arcs v0_takenMany v0_leftBits v0_hasPolynomial v0_hasLists w0_from w0_to) (va_A (wd_Mo_meet cI cJ cG cZ a0 a0_from a0_to a0_near a0_lists a0_colours a0_shades a0_tints a0_attempt a0_taken a0_isApart a0_ways a0_next a0_splits a0_powers a0_row a0_many a0_can a0_could a0_arcRow a0_order a0_isOut v0_thrown v0_nodes v0_arcs v0_takenMany v0_leftBits v0_hasPolynomial v0_hasLists w0_from w0_to) sz) t) (va_A (wd_Mo_meet cI cJ cG cZ a0 a0_from a0_to a0_near a0_lists a0_colours a0_shades a0_tints a0_attempt a0_taken a0_isApart a0_ways a0_next a0_splits a0_powers a0_row a0_many a0_can a0_could a0_arcRow a0_order a0_isOut v0_thrown v0_nodes v0_arcs v0_takenMany v0_leftBits v0_hasPolynomial v0_hasLists w0_from w0_to) sz)) 0 0 (va_A (wd_Mo_meet cI cJ cG cZ a0 a0_from a0_to a0_near a0_lists a0_colours a0_shades a0_tints a0_attempt a0_taken a0_isApart a0_ways a0_next a0_splits a0_powers a0_row a0_many a0_can a0_could a0_arcRow a0_order a0_isOut v0_thrown v0_nodes v0_arcs v0_takenMany v0_leftBits v0_hasPolynomial v0_hasLists w0_from w0_to) sz) := by
  refine Met.ofW (cc := prog_10_method_28_code) (maxL := 3) (ret := (some .boolean)) (by decide) rfl ?_
  intro p e s m args below meth c s₁ B hml hv
  obtain ⟨rfl, hsz, hP, hK, hD0, hNw⟩ := hv
  have hx := B.exec
  have hb := B.bytes
  have hr := B.returns
  have htt : ∀ w ∈ gtbl, w.before _ s = true := fun w h => atoms_spec (ws := us_Mo_meet) B.pre w (List.mem_cons_of_mem _ h)
  have hown : s.vm.findClass R_Mo = some m.cls := findClass_of_methodNamed B.named
  have hlocks := B.notSynchronized
  subst hsz
  have hD := hD0.self (sz := s.heap.size)
  generalize hAe : va_A (wd_Mo_meet cI cJ cG cZ a0 a0_from a0_to a0_near a0_lists a0_colours a0_shades a0_tints a0_attempt a0_taken a0_isApart a0_ways a0_next a0_splits a0_powers a0_row a0_many a0_can a0_could a0_arcRow a0_order a0_isOut v0_thrown v0_nodes v0_arcs v0_takenMany v0_leftBits v0_hasPolynomial v0_hasLists w0_from w0_to) s.heap.size = A at hD ⊢
  have hA : ∀ q : Nat, s.heap.size ≤ q → A q := fun q h => by rw [← hAe]; exact Or.inr h
  clear hAe hD0
  have hS : va_S A s.heap s.heap [] := va_S.rf
  have hl := lv_entry ([.ref a0, .int p1, .int p2]) (n := 3) (Nat.le_of_ble_eq_true rfl)
  rw [lg_entry_eq]
  generalize (lg_sl ([.ref a0, .int p1, .int p2]) ++ List.replicate (3 - (lg_sl ([.ref a0, .int p1, .int p2])).length) Slot.unset).toArray = ls at hl ⊢
  have hl : lv_has ls 3 [(0, .ref a0), (1, .int p1), (2, .int p2)] := hl
  generalize hH : s.heap = H at hP ⊢
  have hS : va_S A s.heap H [] := hH ▸ hS
  generalize hLo : ([] : List Loc) = locs at hS ⊢
  clear hH hLo
  unfold m_Mo_meet at hm
  refine lv_aload_n hx hb d_Mo_meet_0 rfl (lv_at hl 0 rfl) ?_
  refine va_get (D := (dC, dI)) (ci := 8) (v := .ref a0_from) (C := R_Mo) (T := T_Mo) (N := 28) hx hb htt hin_Mo hown hK hP 0 rfl rfl 3 (by decide) (htt _ kt_772) (fun _ h9 => h9) rfl d_Mo_meet_1 ?_
  refine lv_iload_n hx hb d_Mo_meet_4 rfl (lv_at hl 1 rfl) ?_
  obtain ⟨hi_1, hm⟩ := gC_e hm
  refine va_iald hx hb hK hP 1 0 rfl rfl (inb_vp hi_1) d_Mo_meet_5 ?_
  refine lv_aload_n hx hb d_Mo_meet_6 rfl (lv_at hl 0 rfl) ?_
  refine va_get (D := (dC, dI)) (ci := 8) (v := .ref a0_from) (C := R_Mo) (T := T_Mo) (N := 28) hx hb htt hin_Mo hown hK hP 0 rfl rfl 3 (by decide) (htt _ kt_772) (fun _ h9 => h9) rfl d_Mo_meet_7 ?_
  refine lv_iload_n hx hb d_Mo_meet_10 rfl (lv_at hl 2 rfl) ?_
  obtain ⟨hi_2, hm⟩ := gC_e hm
  refine va_iald hx hb hK hP 1 0 rfl rfl (inb_vp hi_2) d_Mo_meet_11 ?_
  obtain ⟨J_60, hJ_60, hm⟩ := gB_x hm
  have jp_60 : ∀ (ls : Array Slot) (H : Heap) (locs : List Loc), J_60 = some ret → lv_has ls 3 [] → va_P (dC, dI) vwCl (wd_Mo_meet cI cJ cG cZ a0 a0_from a0_to a0_near a0_lists a0_colours a0_shades a0_tints a0_attempt a0_taken a0_isApart a0_ways a0_next a0_splits a0_powers a0_row a0_many a0_can a0_could a0_arcRow a0_order a0_isOut v0_thrown v0_nodes v0_arcs v0_takenMany v0_leftBits v0_hasPolynomial v0_hasLists w0_from w0_to) H → va_D A (wd_Mo_meet cI cJ cG cZ a0 a0_from a0_to a0_near a0_lists a0_colours a0_shades a0_tints a0_attempt a0_taken a0_isApart a0_ways a0_next a0_splits a0_powers a0_row a0_many a0_can a0_could a0_arcRow a0_order a0_isOut v0_thrown v0_nodes v0_arcs v0_takenMany v0_leftBits v0_hasPolynomial v0_hasLists w0_from w0_to) → va_S A s.heap H locs → W p l e (headSpec us_Mo_meet rm_Mo_meet).room s m ([.ref a0, .int p1, .int p2] : List Value).toArray below meth c H locs 0 0 (MQ below (va_Qi (fun (r : Int32) (_ : Unit) => ret = r ∧ bz r) (fun _ t => PoS (dC, dI) (tyL cI cJ cG cZ) (wd_Mo_meet cI cJ cG cZ a0 a0_from a0_to a0_near a0_lists a0_colours a0_shades a0_tints a0_attempt a0_taken a0_isApart a0_ways a0_next a0_splits a0_powers a0_row a0_many a0_can a0_could a0_arcRow a0_order a0_isOut v0_thrown v0_nodes v0_arcs v0_takenMany v0_leftBits v0_hasPolynomial v0_hasLists w0_from w0_to) A t) A) ([.ref a0, .int p1, .int p2] : List Value).toArray s 0 0 A) (F0 m 60 ls []) := by
    intro ls H locs hm hl hP hD hS
    have hm := jn0 hJ_60 hm
    refine lv_iconst (v := 1) hx hb d_Mo_meet_60 (by decide) ?_
    refine lv_goto (tgt := 65) hx hb d_Mo_meet_61 (by decide) ?_
    cases hm
    exact W.zret (ty := .boolean) hx hb hr (bz_nar (by decide : bz 1)) (fun t ht hW => ⟨⟨_, (), rfl, ⟨rfl, (by decide : bz 1)⟩, by rw [ht]; exact hP, va_K.moved hW.alike hK, hD⟩, hS.F ht⟩) hS.2.2 d_Mo_meet_65
  clear hJ_60
  refine lv_icmp_eq (tgt := 60) hx hb d_Mo_meet_12 (by decide) (fun c_3 => ?_) (fun c_3 => ?_)
  · have hm := ite_t c_3 hm
    exact jp_60 ls H locs hm (lv_sub hl [] rfl) hP hD hS
  · have hm := ite_f c_3 hm
    refine lv_aload_n hx hb d_Mo_meet_15 rfl (lv_at hl 0 rfl) ?_
    refine va_get (D := (dC, dI)) (ci := 8) (v := .ref a0_from) (C := R_Mo) (T := T_Mo) (N := 28) hx hb htt hin_Mo hown hK hP 0 rfl rfl 3 (by decide) (htt _ kt_772) (fun _ h9 => h9) rfl d_Mo_meet_16 ?_
    refine lv_iload_n hx hb d_Mo_meet_19 rfl (lv_at hl 1 rfl) ?_
    obtain ⟨hi_4, hm⟩ := gC_e hm
    refine va_iald hx hb hK hP 1 0 rfl rfl (inb_vp hi_4) d_Mo_meet_20 ?_
    refine lv_aload_n hx hb d_Mo_meet_21 rfl (lv_at hl 0 rfl) ?_
    refine va_get (D := (dC, dI)) (ci := 8) (v := .ref a0_to) (C := R_Mo) (T := T_Mo) (N := 28) hx hb htt hin_Mo hown hK hP 0 rfl rfl 4 (by decide) (htt _ kt_773) (fun _ h9 => h9) rfl d_Mo_meet_22 ?_
    refine lv_iload_n hx hb d_Mo_meet_25 rfl (lv_at hl 2 rfl) ?_
    obtain ⟨hi_5, hm⟩ := gC_e hm
    refine va_iald hx hb hK hP 2 0 rfl rfl (inb_vp hi_5) d_Mo_meet_26 ?_
    refine lv_icmp_eq (tgt := 60) hx hb d_Mo_meet_27 (by decide) (fun c_6 => ?_) (fun c_6 => ?_)
    · have hm := ite_t c_6 hm
      exact jp_60 ls H locs hm (lv_sub hl [] rfl) hP hD hS
    · have hm := ite_f c_6 hm
      refine lv_aload_n hx hb d_Mo_meet_30 rfl (lv_at hl 0 rfl) ?_
      refine va_get (D := (dC, dI)) (ci := 8) (v := .ref a0_to) (C := R_Mo) (T := T_Mo) (N := 28) hx hb htt hin_Mo hown hK hP 0 rfl rfl 4 (by decide) (htt _ kt_773) (fun _ h9 => h9) rfl d_Mo_meet_31 ?_
      refine lv_iload_n hx hb d_Mo_meet_34 rfl (lv_at hl 1 rfl) ?_
      obtain ⟨hi_7, hm⟩ := gC_e hm
      refine va_iald hx hb hK hP 2 0 rfl rfl (inb_vp hi_7) d_Mo_meet_35 ?_
      refine lv_aload_n hx hb d_Mo_meet_36 rfl (lv_at hl 0 rfl) ?_
      refine va_get (D := (dC, dI)) (ci := 8) (v := .ref a0_from) (C := R_Mo) (T := T_Mo) (N := 28) hx hb htt hin_Mo hown hK hP 0 rfl rfl 3 (by decide) (htt _ kt_772) (fun _ h9 => h9) rfl d_Mo_meet_37 ?_
      refine lv_iload_n hx hb d_Mo_meet_40 rfl (lv_at hl 2 rfl) ?_
      obtain ⟨hi_8, hm⟩ := gC_e hm
      refine va_iald hx hb hK hP 1 0 rfl rfl (inb_vp hi_8) d_Mo_meet_41 ?_
      refine lv_icmp_eq (tgt := 60) hx hb d_Mo_meet_42 (by decide) (fun c_9 => ?_) (fun c_9 => ?_)
      · have hm := ite_t c_9 hm
        exact jp_60 ls H locs hm (lv_sub hl [] rfl) hP hD hS
      · have hm := ite_f c_9 hm
        refine lv_aload_n hx hb d_Mo_meet_45 rfl (lv_at hl 0 rfl) ?_
        refine va_get (D := (dC, dI)) (ci := 8) (v := .ref a0_to) (C := R_Mo) (T := T_Mo) (N := 28) hx hb htt hin_Mo hown hK hP 0 rfl rfl 4 (by decide) (htt _ kt_773) (fun _ h9 => h9) rfl d_Mo_meet_46 ?_
        refine lv_iload_n hx hb d_Mo_meet_49 rfl (lv_at hl 1 rfl) ?_
        obtain ⟨hi_10, hm⟩ := gC_e hm
        refine va_iald hx hb hK hP 2 0 rfl rfl (inb_vp hi_10) d_Mo_meet_50 ?_
        refine lv_aload_n hx hb d_Mo_meet_51 rfl (lv_at hl 0 rfl) ?_
        refine va_get (D := (dC, dI)) (ci := 8) (v := .ref a0_to) (C := R_Mo) (T := T_Mo) (N := 28) hx hb htt hin_Mo hown hK hP 0 rfl rfl 4 (by decide) (htt _ kt_773) (fun _ h9 => h9) rfl d_Mo_meet_52 ?_
        refine lv_iload_n hx hb d_Mo_meet_55 rfl (lv_at hl 2 rfl) ?_
        obtain ⟨hi_11, hm⟩ := gC_e hm
        refine va_iald hx hb hK hP 2 0 rfl rfl (inb_vp hi_11) d_Mo_meet_56 ?_
        refine lv_icmp_ne (tgt := 64) hx hb d_Mo_meet_57 (by decide) (fun c_12 => ?_) (fun c_12 => ?_)
        · have hm := ite_f c_12 hm
          refine lv_iconst (v := 0) hx hb d_Mo_meet_64 (by decide) ?_
          cases hm
          exact W.zret (ty := .boolean) hx hb hr (bz_nar (by decide : bz 0)) (fun t ht hW => ⟨⟨_, (), rfl, ⟨rfl, (by decide : bz 0)⟩, by rw [ht]; exact hP, va_K.moved hW.alike hK, hD⟩, hS.F ht⟩) hS.2.2 d_Mo_meet_65
        · have hm := ite_t c_12 hm
          exact jp_60 ls H locs hm (lv_sub hl [] rfl) hP hD hS
theorem d_Mo_searchArcs_0 : decode prog_10_method_29_code 0 = .ok (.iconst 0, 1) := by decide +kernel
theorem d_Mo_searchArcs_1 : decode prog_10_method_29_code 1 = .ok (.istore_n 2, 1) := by decide +kernel
theorem d_Mo_searchArcs_2 : decode prog_10_method_29_code 2 = .ok (.iconst 0, 1) := by decide +kernel
theorem d_Mo_searchArcs_3 : decode prog_10_method_29_code 3 = .ok (.istore_n 3, 1) := by decide +kernel
theorem d_Mo_searchArcs_4 : decode prog_10_method_29_code 4 = .ok (.iload_n 2, 1) := by decide +kernel
theorem d_Mo_searchArcs_5 : decode prog_10_method_29_code 5 = .ok (.ifCond .lt 205, 3) := by decide +kernel
theorem d_Mo_searchArcs_8 : decode prog_10_method_29_code 8 = .ok (.iload_n 2, 1) := by decide +kernel
theorem d_Mo_searchArcs_9 : decode prog_10_method_29_code 9 = .ok (.aload_n 0, 1) := by decide +kernel
theorem d_Mo_searchArcs_10 : decode prog_10_method_29_code 10 = .ok (.getfield 89, 3) := by decide +kernel
theorem d_Mo_searchArcs_13 : decode prog_10_method_29_code 13 = .ok (.if_icmp .ge 197, 3) := by decide +kernel
theorem d_Mo_searchArcs_16 : decode prog_10_method_29_code 16 = .ok (.iconst 0, 1) := by decide +kernel
theorem d_Mo_searchArcs_17 : decode prog_10_method_29_code 17 = .ok (.istore 4, 2) := by decide +kernel
theorem d_Mo_searchArcs_19 : decode prog_10_method_29_code 19 = .ok (.iconst 0, 1) := by decide +kernel
theorem d_Mo_searchArcs_20 : decode prog_10_method_29_code 20 = .ok (.istore 5, 2) := by decide +kernel
theorem d_Mo_searchArcs_22 : decode prog_10_method_29_code 22 = .ok (.iload 5, 2) := by decide +kernel
theorem d_Mo_searchArcs_24 : decode prog_10_method_29_code 24 = .ok (.iload_n 2, 1) := by decide +kernel
theorem d_Mo_searchArcs_25 : decode prog_10_method_29_code 25 = .ok (.if_icmp .ge 37, 3) := by decide +kernel
theorem d_Mo_searchArcs_28 : decode prog_10_method_29_code 28 = .ok (.aload_n 0, 1) := by decide +kernel
theorem d_Mo_searchArcs_29 : decode prog_10_method_29_code 29 = .ok (.getfield 67, 3) := by decide +kernel
theorem d_Mo_searchArcs_32 : decode prog_10_method_29_code 32 = .ok (.iload 5, 2) := by decide +kernel
theorem d_Mo_searchArcs_34 : decode prog_10_method_29_code 34 = .ok (.iaload, 1) := by decide +kernel
theorem d_Mo_searchArcs_35 : decode prog_10_method_29_code 35 = .ok (.iload 4, 2) := by decide +kernel
theorem d_Mo_searchArcs_37 : decode prog_10_method_29_code 37 = .ok (.if_icmp .lt 15, 3) := by decide +kernel
theorem d_Mo_searchArcs_40 : decode prog_10_method_29_code 40 = .ok (.aload_n 0, 1) := by decide +kernel
theorem d_Mo_searchArcs_41 : decode prog_10_method_29_code 41 = .ok (.getfield 67, 3) := by decide +kernel
theorem d_Mo_searchArcs_44 : decode prog_10_method_29_code 44 = .ok (.iload 5, 2) := by decide +kernel
theorem d_Mo_searchArcs_46 : decode prog_10_method_29_code 46 = .ok (.iaload, 1) := by decide +kernel
theorem d_Mo_searchArcs_47 : decode prog_10_method_29_code 47 = .ok (.iconst 1, 1) := by decide +kernel
theorem d_Mo_searchArcs_48 : decode prog_10_method_29_code 48 = .ok (.iadd, 1) := by decide +kernel
theorem d_Mo_searchArcs_49 : decode prog_10_method_29_code 49 = .ok (.goto 5, 3) := by decide +kernel
theorem d_Mo_searchArcs_52 : decode prog_10_method_29_code 52 = .ok (.iload 4, 2) := by decide +kernel
theorem d_Mo_searchArcs_54 : decode prog_10_method_29_code 54 = .ok (.istore 4, 2) := by decide +kernel
theorem d_Mo_searchArcs_56 : decode prog_10_method_29_code 56 = .ok (.iinc 5 1, 3) := by decide +kernel
theorem d_Mo_searchArcs_59 : decode prog_10_method_29_code 59 = .ok (.goto (-37), 3) := by decide +kernel
theorem d_Mo_searchArcs_62 : decode prog_10_method_29_code 62 = .ok (.iload 4, 2) := by decide +kernel
theorem d_Mo_searchArcs_64 : decode prog_10_method_29_code 64 = .ok (.iload_n 1, 1) := by decide +kernel
theorem d_Mo_searchArcs_65 : decode prog_10_method_29_code 65 = .ok (.if_icmp .ge 10, 3) := by decide +kernel
theorem d_Mo_searchArcs_68 : decode prog_10_method_29_code 68 = .ok (.iload 4, 2) := by decide +kernel
theorem d_Mo_searchArcs_70 : decode prog_10_method_29_code 70 = .ok (.iconst 1, 1) := by decide +kernel
theorem d_Mo_searchArcs_71 : decode prog_10_method_29_code 71 = .ok (.iadd, 1) := by decide +kernel
theorem d_Mo_searchArcs_72 : decode prog_10_method_29_code 72 = .ok (.goto 4, 3) := by decide +kernel
theorem d_Mo_searchArcs_75 : decode prog_10_method_29_code 75 = .ok (.iload_n 1, 1) := by decide +kernel
theorem d_Mo_searchArcs_76 : decode prog_10_method_29_code 76 = .ok (.istore 5, 2) := by decide +kernel
theorem d_Mo_searchArcs_78 : decode prog_10_method_29_code 78 = .ok (.iload_n 3, 1) := by decide +kernel
theorem d_Mo_searchArcs_79 : decode prog_10_method_29_code 79 = .ok (.istore 6, 2) := by decide +kernel
theorem d_Mo_searchArcs_81 : decode prog_10_method_29_code 81 = .ok (.iconst 0, 1) := by decide +kernel
theorem d_Mo_searchArcs_82 : decode prog_10_method_29_code 82 = .ok (.istore 7, 2) := by decide +kernel
theorem d_Mo_searchArcs_84 : decode prog_10_method_29_code 84 = .ok (.iload 6, 2) := by decide +kernel
theorem d_Mo_searchArcs_86 : decode prog_10_method_29_code 86 = .ok (.iload 5, 2) := by decide +kernel
theorem d_Mo_searchArcs_88 : decode prog_10_method_29_code 88 = .ok (.if_icmp .ge 78, 3) := by decide +kernel
theorem d_Mo_searchArcs_91 : decode prog_10_method_29_code 91 = .ok (.iload 7, 2) := by decide +kernel
theorem d_Mo_searchArcs_93 : decode prog_10_method_29_code 93 = .ok (.ifCond .ne 73, 3) := by decide +kernel
theorem d_Mo_searchArcs_96 : decode prog_10_method_29_code 96 = .ok (.iconst 1, 1) := by decide +kernel
theorem d_Mo_searchArcs_97 : decode prog_10_method_29_code 97 = .ok (.istore 7, 2) := by decide +kernel
theorem d_Mo_searchArcs_99 : decode prog_10_method_29_code 99 = .ok (.iconst 0, 1) := by decide +kernel
theorem d_Mo_searchArcs_100 : decode prog_10_method_29_code 100 = .ok (.istore 8, 2) := by decide +kernel
theorem d_Mo_searchArcs_102 : decode prog_10_method_29_code 102 = .ok (.iload 8, 2) := by decide +kernel
theorem d_Mo_searchArcs_104 : decode prog_10_method_29_code 104 = .ok (.iload_n 2, 1) := by decide +kernel
theorem d_Mo_searchArcs_105 : decode prog_10_method_29_code 105 = .ok (.if_icmp .ge 43, 3) := by decide +kernel
theorem d_Mo_searchArcs_108 : decode prog_10_method_29_code 108 = .ok (.iload 7, 2) := by decide +kernel
theorem d_Mo_searchArcs_110 : decode prog_10_method_29_code 110 = .ok (.ifCond .eq 29, 3) := by decide +kernel
theorem d_Mo_searchArcs_113 : decode prog_10_method_29_code 113 = .ok (.aload_n 0, 1) := by decide +kernel
theorem d_Mo_searchArcs_114 : decode prog_10_method_29_code 114 = .ok (.getfield 67, 3) := by decide +kernel
theorem d_Mo_searchArcs_117 : decode prog_10_method_29_code 117 = .ok (.iload 8, 2) := by decide +kernel
theorem d_Mo_searchArcs_119 : decode prog_10_method_29_code 119 = .ok (.iaload, 1) := by decide +kernel
theorem d_Mo_searchArcs_120 : decode prog_10_method_29_code 120 = .ok (.iload 6, 2) := by decide +kernel
theorem d_Mo_searchArcs_122 : decode prog_10_method_29_code 122 = .ok (.if_icmp .ne 13, 3) := by decide +kernel
theorem d_Mo_searchArcs_125 : decode prog_10_method_29_code 125 = .ok (.aload_n 0, 1) := by decide +kernel
theorem d_Mo_searchArcs_126 : decode prog_10_method_29_code 126 = .ok (.iload 8, 2) := by decide +kernel
theorem d_Mo_searchArcs_128 : decode prog_10_method_29_code 128 = .ok (.iload_n 2, 1) := by decide +kernel
theorem d_Mo_searchArcs_129 : decode prog_10_method_29_code 129 = .ok (.invokevirtual 139, 3) := by decide +kernel
theorem d_Mo_searchArcs_132 : decode prog_10_method_29_code 132 = .ok (.ifCond .ne 7, 3) := by decide +kernel
theorem d_Mo_searchArcs_135 : decode prog_10_method_29_code 135 = .ok (.iconst 1, 1) := by decide +kernel
theorem d_Mo_searchArcs_136 : decode prog_10_method_29_code 136 = .ok (.goto 4, 3) := by decide +kernel
theorem d_Mo_searchArcs_139 : decode prog_10_method_29_code 139 = .ok (.iconst 0, 1) := by decide +kernel
theorem d_Mo_searchArcs_140 : decode prog_10_method_29_code 140 = .ok (.istore 7, 2) := by decide +kernel
theorem d_Mo_searchArcs_142 : decode prog_10_method_29_code 142 = .ok (.iinc 8 1, 3) := by decide +kernel
theorem d_Mo_searchArcs_145 : decode prog_10_method_29_code 145 = .ok (.goto (-43), 3) := by decide +kernel
theorem d_Mo_searchArcs_148 : decode prog_10_method_29_code 148 = .ok (.iload 6, 2) := by decide +kernel
theorem d_Mo_searchArcs_150 : decode prog_10_method_29_code 150 = .ok (.iload 7, 2) := by decide +kernel
theorem d_Mo_searchArcs_152 : decode prog_10_method_29_code 152 = .ok (.ifCond .eq 7, 3) := by decide +kernel
theorem d_Mo_searchArcs_155 : decode prog_10_method_29_code 155 = .ok (.iconst 0, 1) := by decide +kernel
theorem d_Mo_searchArcs_156 : decode prog_10_method_29_code 156 = .ok (.goto 4, 3) := by decide +kernel
theorem d_Mo_searchArcs_159 : decode prog_10_method_29_code 159 = .ok (.iconst 1, 1) := by decide +kernel
theorem d_Mo_searchArcs_160 : decode prog_10_method_29_code 160 = .ok (.iadd, 1) := by decide +kernel
theorem d_Mo_searchArcs_161 : decode prog_10_method_29_code 161 = .ok (.istore 6, 2) := by decide +kernel
theorem d_Mo_searchArcs_163 : decode prog_10_method_29_code 163 = .ok (.goto (-79), 3) := by decide +kernel
theorem d_Mo_searchArcs_166 : decode prog_10_method_29_code 166 = .ok (.iload 7, 2) := by decide +kernel
theorem d_Mo_searchArcs_168 : decode prog_10_method_29_code 168 = .ok (.ifCond .eq 19, 3) := by decide +kernel
theorem d_Mo_searchArcs_171 : decode prog_10_method_29_code 171 = .ok (.aload_n 0, 1) := by decide +kernel
theorem d_Mo_searchArcs_172 : decode prog_10_method_29_code 172 = .ok (.getfield 67, 3) := by decide +kernel
theorem d_Mo_searchArcs_175 : decode prog_10_method_29_code 175 = .ok (.iload_n 2, 1) := by decide +kernel
theorem d_Mo_searchArcs_176 : decode prog_10_method_29_code 176 = .ok (.iload 6, 2) := by decide +kernel
theorem d_Mo_searchArcs_178 : decode prog_10_method_29_code 178 = .ok (.iastore, 1) := by decide +kernel
theorem d_Mo_searchArcs_179 : decode prog_10_method_29_code 179 = .ok (.iinc 2 1, 3) := by decide +kernel
theorem d_Mo_searchArcs_182 : decode prog_10_method_29_code 182 = .ok (.iconst 0, 1) := by decide +kernel
theorem d_Mo_searchArcs_183 : decode prog_10_method_29_code 183 = .ok (.istore_n 3, 1) := by decide +kernel
theorem d_Mo_searchArcs_184 : decode prog_10_method_29_code 184 = .ok (.goto 23, 3) := by decide +kernel
theorem d_Mo_searchArcs_187 : decode prog_10_method_29_code 187 = .ok (.iinc 2 (-1), 3) := by decide +kernel
theorem d_Mo_searchArcs_190 : decode prog_10_method_29_code 190 = .ok (.iload_n 2, 1) := by decide +kernel
theorem d_Mo_searchArcs_191 : decode prog_10_method_29_code 191 = .ok (.ifCond .lt 14, 3) := by decide +kernel
theorem d_Mo_searchArcs_194 : decode prog_10_method_29_code 194 = .ok (.aload_n 0, 1) := by decide +kernel
theorem d_Mo_searchArcs_195 : decode prog_10_method_29_code 195 = .ok (.getfield 67, 3) := by decide +kernel
theorem d_Mo_searchArcs_198 : decode prog_10_method_29_code 198 = .ok (.iload_n 2, 1) := by decide +kernel
theorem d_Mo_searchArcs_199 : decode prog_10_method_29_code 199 = .ok (.iaload, 1) := by decide +kernel
theorem d_Mo_searchArcs_200 : decode prog_10_method_29_code 200 = .ok (.iconst 1, 1) := by decide +kernel
theorem d_Mo_searchArcs_201 : decode prog_10_method_29_code 201 = .ok (.iadd, 1) := by decide +kernel
theorem d_Mo_searchArcs_202 : decode prog_10_method_29_code 202 = .ok (.goto 4, 3) := by decide +kernel
theorem d_Mo_searchArcs_205 : decode prog_10_method_29_code 205 = .ok (.iconst 0, 1) := by decide +kernel
theorem d_Mo_searchArcs_206 : decode prog_10_method_29_code 206 = .ok (.istore_n 3, 1) := by decide +kernel
theorem d_Mo_searchArcs_207 : decode prog_10_method_29_code 207 = .ok (.goto (-203), 3) := by decide +kernel
theorem d_Mo_searchArcs_210 : decode prog_10_method_29_code 210 = .ok (.iload_n 2, 1) := by decide +kernel
theorem d_Mo_searchArcs_211 : decode prog_10_method_29_code 211 = .ok (.aload_n 0, 1) := by decide +kernel
theorem d_Mo_searchArcs_212 : decode prog_10_method_29_code 212 = .ok (.getfield 89, 3) := by decide +kernel
theorem d_Mo_searchArcs_215 : decode prog_10_method_29_code 215 = .ok (.if_icmp .ne 7, 3) := by decide +kernel
theorem d_Mo_searchArcs_218 : decode prog_10_method_29_code 218 = .ok (.iconst 1, 1) := by decide +kernel
theorem d_Mo_searchArcs_219 : decode prog_10_method_29_code 219 = .ok (.goto 4, 3) := by decide +kernel
theorem d_Mo_searchArcs_222 : decode prog_10_method_29_code 222 = .ok (.iconst 0, 1) := by decide +kernel
theorem d_Mo_searchArcs_223 : decode prog_10_method_29_code 223 = .ok (.ireturn, 1) := by decide +kernel
abbrev wd_Mo_searchArcs (cI cJ cG cZ : ClassId) (a0 a0_from a0_to a0_near a0_lists a0_colours a0_shades a0_tints a0_attempt a0_taken a0_isApart a0_ways a0_next a0_splits a0_powers a0_row a0_many a0_can a0_could a0_arcRow a0_order a0_isOut : Nat) (v0_thrown : Int32) (v0_nodes : Int32) (v0_arcs : Int32) (v0_takenMany : Int32) (v0_leftBits : Int32) (v0_hasPolynomial : Int32) (v0_hasLists : Int32) (w0_from : Nat → Int32) (w0_to : Nat → Int32) (w0_arcRow : Nat → Int32) : va_W := [(a0, .inr (8, [.int v0_thrown, .int v0_nodes, .int v0_arcs, .ref a0_from, .ref a0_to, .ref a0_near, .ref a0_lists, .ref a0_colours, .ref a0_shades, .ref a0_tints, .ref a0_attempt, .int v0_takenMany, .ref a0_taken, .int v0_leftBits, .ref a0_isApart, .ref a0_ways, .ref a0_next, .ref a0_splits, .ref a0_powers, .ref a0_row, .ref a0_many, .int v0_hasPolynomial, .int v0_hasLists, .ref a0_can, .ref a0_could, .ref a0_arcRow, .ref a0_order, .ref a0_isOut])), (a0_from, .inl (cI, 40, .inl w0_from)), (a0_to, .inl (cI, 40, .inl w0_to)), (a0_arcRow, .inl (cI, 40, .inl w0_arcRow))]
abbrev us_Mo_searchArcs : List Cond := .code y_Mo_searchArcs prog_10_method_29_code 9 (some .boolean) :: gtbl
abbrev rm_Mo_searchArcs : Room := { frames := 1, cells := 0, slots := 0, locals := 22 }
def m_Mo_searchArcs (F : Nat) (v0_thrown : Int32) (v0_nodes : Int32) (v0_arcs : Int32) (v0_takenMany : Int32) (v0_leftBits : Int32) (v0_hasPolynomial : Int32) (v0_hasLists : Int32) (w0_from : Nat → Int32) (w0_to : Nat → Int32) (w0_arcRow : Nat → Int32) (p1 : Int32) : Option (Int32 × (Nat → Int32)) :=
  gL (fun (k_4 : (Int32 × Int32 × (Nat → Int32)) → Option (Int32 × (Nat → Int32))) (z_4 : Int32 × Int32 × (Nat → Int32)) => match z_4 with
  | (x2_1, x3_2, w0_arcRow_3) =>
  gB (α := Option (Int32 × (Nat → Int32))) (
    if x2_1 = v0_arcs then (
      some (1, w0_arcRow_3)
    ) else (
      some (0, w0_arcRow_3)
    )
  ) (fun J_210 =>
  if x2_1 < 0 then (
    J_210
  ) else (
    if v0_arcs ≤ x2_1 then (
      J_210
    ) else (
      gL (fun (k_22 : (Int32 × Int32) → Option (Int32 × (Nat → Int32))) (z_22 : Int32 × Int32) => match z_22 with
      | (x4_7, x5_8) =>
      if x2_1 ≤ x5_8 then (
        gB (α := Int32 → Option (Int32 × (Nat → Int32))) (fun s_10 =>
          gL (fun (k_84 : (Int32 × Int32) → Option (Int32 × (Nat → Int32))) (z_84 : Int32 × Int32) => match z_84 with
          | (x6_11, x7_12) =>
          gB (α := Option (Int32 × (Nat → Int32))) (
            if x7_12 = 0 then (
              gB (x2_1 + (-1)) (fun x2_14 =>
              if x2_14 < 0 then (
                k_4 (x2_14, 0, w0_arcRow_3)
              ) else (
                gC (inb x2_14 40) (
                gB ((w0_arcRow_3 x2_14.toNatClampNeg) + 1) (fun x3_17 =>
                k_4 (x2_14, x3_17, w0_arcRow_3)))
              ))
            ) else (
              gC (inb x2_1 40) (
              gB (x2_1 + 1) (fun x2_19 =>
              k_4 (x2_19, 0, upd w0_arcRow_3 x2_1.toNatClampNeg x6_11)))
            )
          ) (fun J_166 =>
          if s_10 ≤ x6_11 then (
            J_166
          ) else (
            if x7_12 = 0 then (
              gL (fun (k_102 : (Int32 × Int32) → Option (Int32 × (Nat → Int32))) (z_102 : Int32 × Int32) => match z_102 with
              | (x7_22, x8_23) =>
              if x2_1 ≤ x8_23 then (
                if x7_22 = 0 then (
                  gB (x6_11 + 1) (fun x6_26 =>
                  k_84 (x6_26, x7_22))
                ) else (
                  gB (x6_11 + 0) (fun x6_27 =>
                  k_84 (x6_27, x7_22))
                )
              ) else (
                if x7_22 = 0 then (
                  gB (x8_23 + 1) (fun x8_29 =>
                  k_102 (0, x8_29))
                ) else (
                  gC (inb x8_23 40) (
                  gB (α := Option (Int32 × (Nat → Int32))) (
                    gB (x8_23 + 1) (fun x8_31 =>
                    k_102 (1, x8_31))
                  ) (fun J_135 =>
                  if (w0_arcRow_3 x8_23.toNatClampNeg) = x6_11 then (
                    gM (m_Mo_meet F v0_thrown v0_nodes v0_arcs v0_takenMany v0_leftBits v0_hasPolynomial v0_hasLists w0_from w0_to x8_23 x2_1) (fun q_33 =>
                    if q_33 = 0 then (
                      J_135
                    ) else (
                      gB (x8_23 + 1) (fun x8_38 =>
                      k_102 (0, x8_38))
                    ))
                  ) else (
                    J_135
                  )
                  ))
                )
              )
              ) F (1, 0)
            ) else (
              J_166
            )
          )
          )
          ) F (x3_2, 0)
        ) (fun J_76 =>
        if p1 ≤ x4_7 then (
          J_76 p1
        ) else (
          J_76 (x4_7 + 1)
        )
        )
      ) else (
        gC (inb x5_8 40) (
        if (w0_arcRow_3 x5_8.toNatClampNeg) < x4_7 then (
          gB (x5_8 + 1) (fun x5_42 =>
          k_22 (x4_7, x5_42))
        ) else (
          gC (inb x5_8 40) (
          gB ((w0_arcRow_3 x5_8.toNatClampNeg) + 1) (fun x4_44 =>
          gB (x5_8 + 1) (fun x5_45 =>
          k_22 (x4_44, x5_45))))
        ))
      )
      ) F (0, 0)
    )
  )
  )
  ) F (0, 0, w0_arcRow)
set_option maxHeartbeats 4000000 in
set_option maxRecDepth 100000 in
theorem c_Mo_searchArcs (l : Launch) (dC : Nat → ClassId) (dI : Nat → Nat → Nat) (cI cJ cG cZ : ClassId) (a0 a0_from a0_to a0_near a0_lists a0_colours a0_shades a0_tints a0_attempt a0_taken a0_isApart a0_ways a0_next a0_splits a0_powers a0_row a0_many a0_can a0_could a0_arcRow a0_order a0_isOut : Nat) (sz : Nat) (F : Nat) (v0_thrown : Int32) (v0_nodes : Int32) (v0_arcs : Int32) (v0_takenMany : Int32) (v0_leftBits : Int32) (v0_hasPolynomial : Int32) (v0_hasLists : Int32) (w0_from : Nat → Int32) (w0_to : Nat → Int32) (w0_arcRow : Nat → Int32) (p1 : Int32) (ret : Int32) (o_w0_arcRow : Nat → Int32) (hm : m_Mo_searchArcs F v0_thrown v0_nodes v0_arcs v0_takenMany v0_leftBits v0_hasPolynomial v0_hasLists w0_from w0_to w0_arcRow p1 = some (ret, o_w0_arcRow)) : Met l y_Mo_searchArcs us_Mo_searchArcs rm_Mo_searchArcs (PcS (dC, dI) (tyL cI cJ cG cZ) [.ref a0, .int p1] sz (wd_Mo_searchArcs cI cJ cG cZ a0 a0_from a0_to a0_near a0_lists a0_colours a0_shades a0_tints a0_attempt a0_taken a0_isApart a0_ways a0_next a0_splits a0_powers a0_row a0_many a0_can a0_could a0_arcRow a0_order a0_isOut v0_thrown v0_nodes v0_arcs v0_takenMany v0_leftBits v0_hasPolynomial v0_hasLists w0_from w0_to w0_arcRow)) (va_Qi (fun (r : Int32) (_ : Unit) => ret = r ∧ bz r) (fun _ t => PoS (dC, dI) (tyL cI cJ cG cZ) (wd_Mo_searchArcs cI cJ cG cZ a0 a0_from a0_to a0_near a0_lists a0_colours a0_shades a0_tints a0_attempt a0_taken a0_isApart a0_ways a0_next a0_splits a0_powers a0_row a0_many a0_can a0_could a0_arcRow a0_order a0_isOut v0_thrown v0_nodes v0_arcs v0_takenMany v0_leftBits v0_hasPolynomial v0_hasLists w0_from w0_to o_w0_arcRow) (va_A (wd_Mo_searchArcs cI cJ cG cZ a0 a0_from a0_to a0_near a0_lists a0_colours a0_shades a0_tints a0_attempt a0_taken a0_isApart a0_ways a0_next a0_splits a0_powers a0_row a0_many a0_can a0_could a0_arcRow a0_order a0_isOut v0_thrown v0_nodes v0_arcs v0_takenMany v0_leftBits v0_hasPolynomial v0_hasLists w0_from w0_to w0_arcRow) sz) t) (va_A (wd_Mo_searchArcs cI cJ cG cZ a0 a0_from a0_to a0_near a0_lists a0_colours a0_shades a0_tints a0_attempt a0_taken a0_isApart a0_ways a0_next a0_splits a0_powers a0_row a0_many a0_can a0_could a0_arcRow a0_order a0_isOut v0_thrown v0_nodes v0_arcs v0_takenMany v0_leftBits v0_hasPolynomial v0_hasLists w0_from w0_to w0_arcRow) sz)) 0 0 (va_A (wd_Mo_searchArcs cI cJ cG cZ a0 a0_from a0_to a0_near a0_lists a0_colours a0_shades a0_tints a0_attempt a0_taken a0_isApart a0_ways a0_next a0_splits a0_powers a0_row a0_many a0_can a0_could a0_arcRow a0_order a0_isOut v0_thrown v0_nodes v0_arcs v0_takenMany v0_leftBits v0_hasPolynomial v0_hasLists w0_from w0_to w0_arcRow) sz) := by
  refine Met.ofW (cc := prog_10_method_29_code) (maxL := 9) (ret := (some .boolean)) (by decide) rfl ?_
  intro p e s m args below meth c s₁ B hml hv
  obtain ⟨rfl, hsz, hP, hK, hD0, hNw⟩ := hv
  have hx := B.exec
  have hb := B.bytes
  have hr := B.returns
  have htt : ∀ w ∈ gtbl, w.before _ s = true := fun w h => atoms_spec (ws := us_Mo_searchArcs) B.pre w (List.mem_cons_of_mem _ h)
  have hown : s.vm.findClass R_Mo = some m.cls := findClass_of_methodNamed B.named
  have hlocks := B.notSynchronized
  subst hsz
  have hD := hD0.self (sz := s.heap.size)
  generalize hAe : va_A (wd_Mo_searchArcs cI cJ cG cZ a0 a0_from a0_to a0_near a0_lists a0_colours a0_shades a0_tints a0_attempt a0_taken a0_isApart a0_ways a0_next a0_splits a0_powers a0_row a0_many a0_can a0_could a0_arcRow a0_order a0_isOut v0_thrown v0_nodes v0_arcs v0_takenMany v0_leftBits v0_hasPolynomial v0_hasLists w0_from w0_to w0_arcRow) s.heap.size = A at hD ⊢
  have hA : ∀ q : Nat, s.heap.size ≤ q → A q := fun q h => by rw [← hAe]; exact Or.inr h
  clear hAe hD0
  have hS : va_S A s.heap s.heap [] := va_S.rf
  have hl := lv_entry ([.ref a0, .int p1]) (n := 9) (Nat.le_of_ble_eq_true rfl)
  rw [lg_entry_eq]
  generalize (lg_sl ([.ref a0, .int p1]) ++ List.replicate (9 - (lg_sl ([.ref a0, .int p1])).length) Slot.unset).toArray = ls at hl ⊢
  have hl : lv_has ls 9 [(0, .ref a0), (1, .int p1)] := hl
  generalize hH : s.heap = H at hP ⊢
  have hS : va_S A s.heap H [] := hH ▸ hS
  generalize hLo : ([] : List Loc) = locs at hS ⊢
  clear hH hLo
  unfold m_Mo_searchArcs at hm
  refine lv_iconst (v := 0) hx hb d_Mo_searchArcs_0 (by decide) ?_
  refine lv_istore_n (lv' := [(2, .int 0), (0, .ref a0), (1, .int p1)]) hx hb d_Mo_searchArcs_1 rfl hl (by decide) rfl (fun ls hl => ?_)
  refine lv_iconst (v := 0) hx hb d_Mo_searchArcs_2 (by decide) ?_
  refine lv_istore_n (lv' := [(3, .int 0), (2, .int 0), (0, .ref a0), (1, .int p1)]) hx hb d_Mo_searchArcs_3 rfl hl (by decide) rfl (fun ls hl => ?_)
  refine gL_e (P := (fun (z_4 : Int32 × Int32 × (Nat → Int32)) => ∀ (x2_1 : Int32), ∀ (x3_2 : Int32), ∀ (w0_arcRow_3 : Nat → Int32), z_4 = (x2_1, x3_2, w0_arcRow_3) → ∀ (ls : Array Slot) (H : Heap) (locs : List Loc), lv_has ls 9 [(0, .ref a0), (1, .int p1), (2, .int x2_1), (3, .int x3_2)] → va_P (dC, dI) vwCl (wd_Mo_searchArcs cI cJ cG cZ a0 a0_from a0_to a0_near a0_lists a0_colours a0_shades a0_tints a0_attempt a0_taken a0_isApart a0_ways a0_next a0_splits a0_powers a0_row a0_many a0_can a0_could a0_arcRow a0_order a0_isOut v0_thrown v0_nodes v0_arcs v0_takenMany v0_leftBits v0_hasPolynomial v0_hasLists w0_from w0_to w0_arcRow_3) H → va_D A (wd_Mo_searchArcs cI cJ cG cZ a0 a0_from a0_to a0_near a0_lists a0_colours a0_shades a0_tints a0_attempt a0_taken a0_isApart a0_ways a0_next a0_splits a0_powers a0_row a0_many a0_can a0_could a0_arcRow a0_order a0_isOut v0_thrown v0_nodes v0_arcs v0_takenMany v0_leftBits v0_hasPolynomial v0_hasLists w0_from w0_to w0_arcRow_3) → va_S A s.heap H locs → W p l e (headSpec us_Mo_searchArcs rm_Mo_searchArcs).room s m ([.ref a0, .int p1] : List Value).toArray below meth c H locs 0 0 (MQ below (va_Qi (fun (r : Int32) (_ : Unit) => ret = r ∧ bz r) (fun _ t => PoS (dC, dI) (tyL cI cJ cG cZ) (wd_Mo_searchArcs cI cJ cG cZ a0 a0_from a0_to a0_near a0_lists a0_colours a0_shades a0_tints a0_attempt a0_taken a0_isApart a0_ways a0_next a0_splits a0_powers a0_row a0_many a0_can a0_could a0_arcRow a0_order a0_isOut v0_thrown v0_nodes v0_arcs v0_takenMany v0_leftBits v0_hasPolynomial v0_hasLists w0_from w0_to o_w0_arcRow) A t) A) ([.ref a0, .int p1] : List Value).toArray s 0 0 A) (F0 m 4 ls []))) hm (fun k_4 z_4 ih_4 hm => ?_) _ _ _ rfl ls H locs (lv_sub hl [2, 3, 1, 0] rfl) hP hD hS
  intro x2_1 x3_2 w0_arcRow_3 hz ls H locs hl hP hD hS
  subst hz
  dsimp only at hm
  refine lv_iload_n hx hb d_Mo_searchArcs_4 rfl (lv_at hl 2 rfl) ?_
  obtain ⟨J_210, hJ_210, hm⟩ := gB_x hm
  have jp_210 : ∀ (ls : Array Slot) (H : Heap) (locs : List Loc), J_210 = some (ret, o_w0_arcRow) → lv_has ls 9 [(0, .ref a0), (2, .int x2_1)] → va_P (dC, dI) vwCl (wd_Mo_searchArcs cI cJ cG cZ a0 a0_from a0_to a0_near a0_lists a0_colours a0_shades a0_tints a0_attempt a0_taken a0_isApart a0_ways a0_next a0_splits a0_powers a0_row a0_many a0_can a0_could a0_arcRow a0_order a0_isOut v0_thrown v0_nodes v0_arcs v0_takenMany v0_leftBits v0_hasPolynomial v0_hasLists w0_from w0_to w0_arcRow_3) H → va_D A (wd_Mo_searchArcs cI cJ cG cZ a0 a0_from a0_to a0_near a0_lists a0_colours a0_shades a0_tints a0_attempt a0_taken a0_isApart a0_ways a0_next a0_splits a0_powers a0_row a0_many a0_can a0_could a0_arcRow a0_order a0_isOut v0_thrown v0_nodes v0_arcs v0_takenMany v0_leftBits v0_hasPolynomial v0_hasLists w0_from w0_to w0_arcRow_3) → va_S A s.heap H locs → W p l e (headSpec us_Mo_searchArcs rm_Mo_searchArcs).room s m ([.ref a0, .int p1] : List Value).toArray below meth c H locs 0 0 (MQ below (va_Qi (fun (r : Int32) (_ : Unit) => ret = r ∧ bz r) (fun _ t => PoS (dC, dI) (tyL cI cJ cG cZ) (wd_Mo_searchArcs cI cJ cG cZ a0 a0_from a0_to a0_near a0_lists a0_colours a0_shades a0_tints a0_attempt a0_taken a0_isApart a0_ways a0_next a0_splits a0_powers a0_row a0_many a0_can a0_could a0_arcRow a0_order a0_isOut v0_thrown v0_nodes v0_arcs v0_takenMany v0_leftBits v0_hasPolynomial v0_hasLists w0_from w0_to o_w0_arcRow) A t) A) ([.ref a0, .int p1] : List Value).toArray s 0 0 A) (F0 m 210 ls []) := by
    intro ls H locs hm hl hP hD hS
    have hm := jn0 hJ_210 hm
    refine lv_iload_n hx hb d_Mo_searchArcs_210 rfl (lv_at hl 1 rfl) ?_
    refine lv_aload_n hx hb d_Mo_searchArcs_211 rfl (lv_at hl 0 rfl) ?_
    refine va_get (D := (dC, dI)) (ci := 8) (v := .int v0_arcs) (C := R_Mo) (T := T_Mo) (N := 28) hx hb htt hin_Mo hown hK hP 0 rfl rfl 2 (by decide) (htt _ kt_771) (fun _ h9 => h9) rfl d_Mo_searchArcs_212 ?_
    refine lv_icmp_ne (tgt := 222) hx hb d_Mo_searchArcs_215 (by decide) (fun c_4 => ?_) (fun c_4 => ?_)
    · have hm := ite_f c_4 hm
      refine lv_iconst (v := 0) hx hb d_Mo_searchArcs_222 (by decide) ?_
      cases hm
      exact W.zret (ty := .boolean) hx hb hr (bz_nar (by decide : bz 0)) (fun t ht hW => ⟨⟨_, (), rfl, ⟨rfl, (by decide : bz 0)⟩, by rw [ht]; exact hP, va_K.moved hW.alike hK, hD⟩, hS.F ht⟩) hS.2.2 d_Mo_searchArcs_223
    · have hm := ite_t c_4 hm
      refine lv_iconst (v := 1) hx hb d_Mo_searchArcs_218 (by decide) ?_
      refine lv_goto (tgt := 223) hx hb d_Mo_searchArcs_219 (by decide) ?_
      cases hm
      exact W.zret (ty := .boolean) hx hb hr (bz_nar (by decide : bz 1)) (fun t ht hW => ⟨⟨_, (), rfl, ⟨rfl, (by decide : bz 1)⟩, by rw [ht]; exact hP, va_K.moved hW.alike hK, hD⟩, hS.F ht⟩) hS.2.2 d_Mo_searchArcs_223
  clear hJ_210
  refine lv_if_lt (tgt := 210) hx hb d_Mo_searchArcs_5 (by decide) (fun c_5 => ?_) (fun c_5 => ?_)
  · have hm := ite_t c_5 hm
    exact jp_210 ls H locs hm (lv_sub hl [0, 2] rfl) hP hD hS
  · have hm := ite_f c_5 hm
    refine lv_iload_n hx hb d_Mo_searchArcs_8 rfl (lv_at hl 2 rfl) ?_
    refine lv_aload_n hx hb d_Mo_searchArcs_9 rfl (lv_at hl 0 rfl) ?_
    refine va_get (D := (dC, dI)) (ci := 8) (v := .int v0_arcs) (C := R_Mo) (T := T_Mo) (N := 28) hx hb htt hin_Mo hown hK hP 0 rfl rfl 2 (by decide) (htt _ kt_771) (fun _ h9 => h9) rfl d_Mo_searchArcs_10 ?_
    refine lv_icmp_ge (tgt := 210) hx hb d_Mo_searchArcs_13 (by decide) (fun c_6 => ?_) (fun c_6 => ?_)
    · have hm := ite_t c_6 hm
      exact jp_210 ls H locs hm (lv_sub hl [0, 2] rfl) hP hD hS
    · have hm := ite_f c_6 hm
      refine lv_iconst (v := 0) hx hb d_Mo_searchArcs_16 (by decide) ?_
      refine lv_istore (lv' := [(4, .int 0), (0, .ref a0), (1, .int p1), (2, .int x2_1), (3, .int x3_2)]) hx hb d_Mo_searchArcs_17 hl (by decide) rfl (fun ls hl => ?_)
      refine lv_iconst (v := 0) hx hb d_Mo_searchArcs_19 (by decide) ?_
      refine lv_istore (lv' := [(5, .int 0), (4, .int 0), (0, .ref a0), (1, .int p1), (2, .int x2_1), (3, .int x3_2)]) hx hb d_Mo_searchArcs_20 hl (by decide) rfl (fun ls hl => ?_)
      refine gL_e (P := (fun (z_22 : Int32 × Int32) => ∀ (x4_7 : Int32), ∀ (x5_8 : Int32), z_22 = (x4_7, x5_8) → ∀ (ls : Array Slot) (H : Heap) (locs : List Loc), lv_has ls 9 [(0, .ref a0), (1, .int p1), (2, .int x2_1), (3, .int x3_2), (4, .int x4_7), (5, .int x5_8)] → va_P (dC, dI) vwCl (wd_Mo_searchArcs cI cJ cG cZ a0 a0_from a0_to a0_near a0_lists a0_colours a0_shades a0_tints a0_attempt a0_taken a0_isApart a0_ways a0_next a0_splits a0_powers a0_row a0_many a0_can a0_could a0_arcRow a0_order a0_isOut v0_thrown v0_nodes v0_arcs v0_takenMany v0_leftBits v0_hasPolynomial v0_hasLists w0_from w0_to w0_arcRow_3) H → va_D A (wd_Mo_searchArcs cI cJ cG cZ a0 a0_from a0_to a0_near a0_lists a0_colours a0_shades a0_tints a0_attempt a0_taken a0_isApart a0_ways a0_next a0_splits a0_powers a0_row a0_many a0_can a0_could a0_arcRow a0_order a0_isOut v0_thrown v0_nodes v0_arcs v0_takenMany v0_leftBits v0_hasPolynomial v0_hasLists w0_from w0_to w0_arcRow_3) → va_S A s.heap H locs → W p l e (headSpec us_Mo_searchArcs rm_Mo_searchArcs).room s m ([.ref a0, .int p1] : List Value).toArray below meth c H locs 0 0 (MQ below (va_Qi (fun (r : Int32) (_ : Unit) => ret = r ∧ bz r) (fun _ t => PoS (dC, dI) (tyL cI cJ cG cZ) (wd_Mo_searchArcs cI cJ cG cZ a0 a0_from a0_to a0_near a0_lists a0_colours a0_shades a0_tints a0_attempt a0_taken a0_isApart a0_ways a0_next a0_splits a0_powers a0_row a0_many a0_can a0_could a0_arcRow a0_order a0_isOut v0_thrown v0_nodes v0_arcs v0_takenMany v0_leftBits v0_hasPolynomial v0_hasLists w0_from w0_to o_w0_arcRow) A t) A) ([.ref a0, .int p1] : List Value).toArray s 0 0 A) (F0 m 22 ls []))) hm (fun k_22 z_22 ih_22 hm => ?_) _ _ rfl ls H locs (lv_sub hl [2, 3, 4, 5, 1, 0] rfl) hP hD hS
      intro x4_7 x5_8 hz ls H locs hl hP hD hS
      subst hz
      dsimp only at hm
      refine lv_iload hx hb d_Mo_searchArcs_22 (lv_at hl 5 rfl) ?_
      refine lv_iload_n hx hb d_Mo_searchArcs_24 rfl (lv_at hl 2 rfl) ?_
      refine lv_icmp_ge (tgt := 62) hx hb d_Mo_searchArcs_25 (by decide) (fun c_9 => ?_) (fun c_9 => ?_)
      · have hm := ite_t c_9 hm
        refine lv_iload hx hb d_Mo_searchArcs_62 (lv_at hl 4 rfl) ?_
        refine lv_iload_n hx hb d_Mo_searchArcs_64 rfl (lv_at hl 1 rfl) ?_
        obtain ⟨J_76, hJ_76, hm⟩ := gB_x hm
        have jp_76 : ∀ (s_10 : Int32) (ls : Array Slot) (H : Heap) (locs : List Loc), J_76 s_10 = some (ret, o_w0_arcRow) → lv_has ls 9 [(0, .ref a0), (1, .int p1), (2, .int x2_1), (3, .int x3_2)] → va_P (dC, dI) vwCl (wd_Mo_searchArcs cI cJ cG cZ a0 a0_from a0_to a0_near a0_lists a0_colours a0_shades a0_tints a0_attempt a0_taken a0_isApart a0_ways a0_next a0_splits a0_powers a0_row a0_many a0_can a0_could a0_arcRow a0_order a0_isOut v0_thrown v0_nodes v0_arcs v0_takenMany v0_leftBits v0_hasPolynomial v0_hasLists w0_from w0_to w0_arcRow_3) H → va_D A (wd_Mo_searchArcs cI cJ cG cZ a0 a0_from a0_to a0_near a0_lists a0_colours a0_shades a0_tints a0_attempt a0_taken a0_isApart a0_ways a0_next a0_splits a0_powers a0_row a0_many a0_can a0_could a0_arcRow a0_order a0_isOut v0_thrown v0_nodes v0_arcs v0_takenMany v0_leftBits v0_hasPolynomial v0_hasLists w0_from w0_to w0_arcRow_3) → va_S A s.heap H locs → W p l e (headSpec us_Mo_searchArcs rm_Mo_searchArcs).room s m ([.ref a0, .int p1] : List Value).toArray below meth c H locs 0 0 (MQ below (va_Qi (fun (r : Int32) (_ : Unit) => ret = r ∧ bz r) (fun _ t => PoS (dC, dI) (tyL cI cJ cG cZ) (wd_Mo_searchArcs cI cJ cG cZ a0 a0_from a0_to a0_near a0_lists a0_colours a0_shades a0_tints a0_attempt a0_taken a0_isApart a0_ways a0_next a0_splits a0_powers a0_row a0_many a0_can a0_could a0_arcRow a0_order a0_isOut v0_thrown v0_nodes v0_arcs v0_takenMany v0_leftBits v0_hasPolynomial v0_hasLists w0_from w0_to o_w0_arcRow) A t) A) ([.ref a0, .int p1] : List Value).toArray s 0 0 A) (F0 m 76 ls [.int s_10]) := by
          intro s_10 ls H locs hm hl hP hD hS
          have hm := jn1 hJ_76 hm
          refine lv_istore (lv' := [(5, .int s_10), (0, .ref a0), (1, .int p1), (2, .int x2_1), (3, .int x3_2)]) hx hb d_Mo_searchArcs_76 hl (by decide) rfl (fun ls hl => ?_)
          refine lv_iload_n hx hb d_Mo_searchArcs_78 rfl (lv_at hl 4 rfl) ?_
          refine lv_istore (lv' := [(6, .int x3_2), (5, .int s_10), (0, .ref a0), (1, .int p1), (2, .int x2_1), (3, .int x3_2)]) hx hb d_Mo_searchArcs_79 hl (by decide) rfl (fun ls hl => ?_)
          refine lv_iconst (v := 0) hx hb d_Mo_searchArcs_81 (by decide) ?_
          refine lv_istore (lv' := [(7, .int 0), (6, .int x3_2), (5, .int s_10), (0, .ref a0), (1, .int p1), (2, .int x2_1), (3, .int x3_2)]) hx hb d_Mo_searchArcs_82 hl (by decide) rfl (fun ls hl => ?_)
          refine gL_e (P := (fun (z_84 : Int32 × Int32) => ∀ (x6_11 : Int32), ∀ (x7_12 : Int32), z_84 = (x6_11, x7_12) → ∀ (ls : Array Slot) (H : Heap) (locs : List Loc), lv_has ls 9 [(0, .ref a0), (1, .int p1), (2, .int x2_1), (5, .int s_10), (6, .int x6_11), (7, .int x7_12)] → va_P (dC, dI) vwCl (wd_Mo_searchArcs cI cJ cG cZ a0 a0_from a0_to a0_near a0_lists a0_colours a0_shades a0_tints a0_attempt a0_taken a0_isApart a0_ways a0_next a0_splits a0_powers a0_row a0_many a0_can a0_could a0_arcRow a0_order a0_isOut v0_thrown v0_nodes v0_arcs v0_takenMany v0_leftBits v0_hasPolynomial v0_hasLists w0_from w0_to w0_arcRow_3) H → va_D A (wd_Mo_searchArcs cI cJ cG cZ a0 a0_from a0_to a0_near a0_lists a0_colours a0_shades a0_tints a0_attempt a0_taken a0_isApart a0_ways a0_next a0_splits a0_powers a0_row a0_many a0_can a0_could a0_arcRow a0_order a0_isOut v0_thrown v0_nodes v0_arcs v0_takenMany v0_leftBits v0_hasPolynomial v0_hasLists w0_from w0_to w0_arcRow_3) → va_S A s.heap H locs → W p l e (headSpec us_Mo_searchArcs rm_Mo_searchArcs).room s m ([.ref a0, .int p1] : List Value).toArray below meth c H locs 0 0 (MQ below (va_Qi (fun (r : Int32) (_ : Unit) => ret = r ∧ bz r) (fun _ t => PoS (dC, dI) (tyL cI cJ cG cZ) (wd_Mo_searchArcs cI cJ cG cZ a0 a0_from a0_to a0_near a0_lists a0_colours a0_shades a0_tints a0_attempt a0_taken a0_isApart a0_ways a0_next a0_splits a0_powers a0_row a0_many a0_can a0_could a0_arcRow a0_order a0_isOut v0_thrown v0_nodes v0_arcs v0_takenMany v0_leftBits v0_hasPolynomial v0_hasLists w0_from w0_to o_w0_arcRow) A t) A) ([.ref a0, .int p1] : List Value).toArray s 0 0 A) (F0 m 84 ls []))) hm (fun k_84 z_84 ih_84 hm => ?_) _ _ rfl ls H locs (lv_sub hl [3, 4, 5, 2, 1, 0] rfl) hP hD hS
          intro x6_11 x7_12 hz ls H locs hl hP hD hS
          subst hz
          dsimp only at hm
          refine lv_iload hx hb d_Mo_searchArcs_84 (lv_at hl 4 rfl) ?_
          refine lv_iload hx hb d_Mo_searchArcs_86 (lv_at hl 3 rfl) ?_
          obtain ⟨J_166, hJ_166, hm⟩ := gB_x hm
          have jp_166 : ∀ (ls : Array Slot) (H : Heap) (locs : List Loc), J_166 = some (ret, o_w0_arcRow) → lv_has ls 9 [(0, .ref a0), (1, .int p1), (2, .int x2_1), (6, .int x6_11), (7, .int x7_12)] → va_P (dC, dI) vwCl (wd_Mo_searchArcs cI cJ cG cZ a0 a0_from a0_to a0_near a0_lists a0_colours a0_shades a0_tints a0_attempt a0_taken a0_isApart a0_ways a0_next a0_splits a0_powers a0_row a0_many a0_can a0_could a0_arcRow a0_order a0_isOut v0_thrown v0_nodes v0_arcs v0_takenMany v0_leftBits v0_hasPolynomial v0_hasLists w0_from w0_to w0_arcRow_3) H → va_D A (wd_Mo_searchArcs cI cJ cG cZ a0 a0_from a0_to a0_near a0_lists a0_colours a0_shades a0_tints a0_attempt a0_taken a0_isApart a0_ways a0_next a0_splits a0_powers a0_row a0_many a0_can a0_could a0_arcRow a0_order a0_isOut v0_thrown v0_nodes v0_arcs v0_takenMany v0_leftBits v0_hasPolynomial v0_hasLists w0_from w0_to w0_arcRow_3) → va_S A s.heap H locs → W p l e (headSpec us_Mo_searchArcs rm_Mo_searchArcs).room s m ([.ref a0, .int p1] : List Value).toArray below meth c H locs 0 0 (MQ below (va_Qi (fun (r : Int32) (_ : Unit) => ret = r ∧ bz r) (fun _ t => PoS (dC, dI) (tyL cI cJ cG cZ) (wd_Mo_searchArcs cI cJ cG cZ a0 a0_from a0_to a0_near a0_lists a0_colours a0_shades a0_tints a0_attempt a0_taken a0_isApart a0_ways a0_next a0_splits a0_powers a0_row a0_many a0_can a0_could a0_arcRow a0_order a0_isOut v0_thrown v0_nodes v0_arcs v0_takenMany v0_leftBits v0_hasPolynomial v0_hasLists w0_from w0_to o_w0_arcRow) A t) A) ([.ref a0, .int p1] : List Value).toArray s 0 0 A) (F0 m 166 ls []) := by
            intro ls H locs hm hl hP hD hS
            have hm := jn0 hJ_166 hm
            refine lv_iload hx hb d_Mo_searchArcs_166 (lv_at hl 4 rfl) ?_
            refine lv_if_eq (tgt := 187) hx hb d_Mo_searchArcs_168 (by decide) (fun c_13 => ?_) (fun c_13 => ?_)
            · have hm := ite_t c_13 hm
              obtain ⟨x2_14, ex2_14⟩ : ∃ y : Int32, y = x2_1 + (-1) := ⟨_, rfl⟩
              have hm := gB_at ex2_14 hm
              refine lv_iinc (v := x2_14) (lv' := [(2, .int x2_14), (0, .ref a0), (1, .int p1), (6, .int x6_11), (7, .int x7_12)]) hx hb d_Mo_searchArcs_187 hl (k := 2) rfl (by rw [ex2_14]; rfl) (by decide) rfl (fun ls hl => ?_)
              refine lv_iload_n hx hb d_Mo_searchArcs_190 rfl (lv_at hl 0 rfl) ?_
              refine lv_if_lt (tgt := 205) hx hb d_Mo_searchArcs_191 (by decide) (fun c_15 => ?_) (fun c_15 => ?_)
              · have hm := ite_t c_15 hm
                refine lv_iconst (v := 0) hx hb d_Mo_searchArcs_205 (by decide) ?_
                refine lv_istore_n (lv' := [(3, .int 0), (2, .int x2_14), (0, .ref a0), (1, .int p1), (6, .int x6_11), (7, .int x7_12)]) hx hb d_Mo_searchArcs_206 rfl hl (by decide) rfl (fun ls hl => ?_)
                refine lv_goto (tgt := 4) hx hb d_Mo_searchArcs_207 (by decide) ?_
                exact ih_4 _ hm _ _ _ rfl ls H locs (lv_sub hl [2, 3, 1, 0] rfl) hP hD hS
              · have hm := ite_f c_15 hm
                refine lv_aload_n hx hb d_Mo_searchArcs_194 rfl (lv_at hl 1 rfl) ?_
                refine va_get (D := (dC, dI)) (ci := 8) (v := .ref a0_arcRow) (C := R_Mo) (T := T_Mo) (N := 28) hx hb htt hin_Mo hown hK hP 0 rfl rfl 25 (by decide) (htt _ kt_794) (fun _ h9 => h9) rfl d_Mo_searchArcs_195 ?_
                refine lv_iload_n hx hb d_Mo_searchArcs_198 rfl (lv_at hl 0 rfl) ?_
                obtain ⟨hi_16, hm⟩ := gC_e hm
                refine va_iald hx hb hK hP 3 0 rfl rfl (inb_vp hi_16) d_Mo_searchArcs_199 ?_
                refine lv_iconst (v := 1) hx hb d_Mo_searchArcs_200 (by decide) ?_
                refine lv_iadd hx hb d_Mo_searchArcs_201 ?_
                refine lv_goto (tgt := 206) hx hb d_Mo_searchArcs_202 (by decide) ?_
                refine lv_topi (fun x3_17 ex3_17 => ?_)
                have hm := gB_at ex3_17 hm
                refine lv_istore_n (lv' := [(3, .int x3_17), (2, .int x2_14), (0, .ref a0), (1, .int p1), (6, .int x6_11), (7, .int x7_12)]) hx hb d_Mo_searchArcs_206 rfl hl (by decide) rfl (fun ls hl => ?_)
                refine lv_goto (tgt := 4) hx hb d_Mo_searchArcs_207 (by decide) ?_
                exact ih_4 _ hm _ _ _ rfl ls H locs (lv_sub hl [2, 3, 1, 0] rfl) hP hD hS
            · have hm := ite_f c_13 hm
              refine lv_aload_n hx hb d_Mo_searchArcs_171 rfl (lv_at hl 0 rfl) ?_
              refine va_get (D := (dC, dI)) (ci := 8) (v := .ref a0_arcRow) (C := R_Mo) (T := T_Mo) (N := 28) hx hb htt hin_Mo hown hK hP 0 rfl rfl 25 (by decide) (htt _ kt_794) (fun _ h9 => h9) rfl d_Mo_searchArcs_172 ?_
              refine lv_iload_n hx hb d_Mo_searchArcs_175 rfl (lv_at hl 2 rfl) ?_
              refine lv_iload hx hb d_Mo_searchArcs_176 (lv_at hl 3 rfl) ?_
              obtain ⟨hi_18, hm⟩ := gC_e hm
              refine va_iast hx hb hK hP hD hS 3 0 rfl rfl (inb_vp hi_18) d_Mo_searchArcs_178 (fun H locs hP hD hS => ?_)
              have hP : va_P (dC, dI) vwCl (wd_Mo_searchArcs cI cJ cG cZ a0 a0_from a0_to a0_near a0_lists a0_colours a0_shades a0_tints a0_attempt a0_taken a0_isApart a0_ways a0_next a0_splits a0_powers a0_row a0_many a0_can a0_could a0_arcRow a0_order a0_isOut v0_thrown v0_nodes v0_arcs v0_takenMany v0_leftBits v0_hasPolynomial v0_hasLists w0_from w0_to (upd w0_arcRow_3 x2_1.toNatClampNeg x6_11)) H := hP
              have hD : va_D A (wd_Mo_searchArcs cI cJ cG cZ a0 a0_from a0_to a0_near a0_lists a0_colours a0_shades a0_tints a0_attempt a0_taken a0_isApart a0_ways a0_next a0_splits a0_powers a0_row a0_many a0_can a0_could a0_arcRow a0_order a0_isOut v0_thrown v0_nodes v0_arcs v0_takenMany v0_leftBits v0_hasPolynomial v0_hasLists w0_from w0_to (upd w0_arcRow_3 x2_1.toNatClampNeg x6_11)) := hD
              obtain ⟨x2_19, ex2_19⟩ : ∃ y : Int32, y = x2_1 + 1 := ⟨_, rfl⟩
              have hm := gB_at ex2_19 hm
              refine lv_iinc (v := x2_19) (lv' := [(2, .int x2_19), (0, .ref a0), (1, .int p1), (6, .int x6_11), (7, .int x7_12)]) hx hb d_Mo_searchArcs_179 hl (k := 2) rfl (by rw [ex2_19]; rfl) (by decide) rfl (fun ls hl => ?_)
              refine lv_iconst (v := 0) hx hb d_Mo_searchArcs_182 (by decide) ?_
              refine lv_istore_n (lv' := [(3, .int 0), (2, .int x2_19), (0, .ref a0), (1, .int p1), (6, .int x6_11), (7, .int x7_12)]) hx hb d_Mo_searchArcs_183 rfl hl (by decide) rfl (fun ls hl => ?_)
              refine lv_goto (tgt := 207) hx hb d_Mo_searchArcs_184 (by decide) ?_
              refine lv_goto (tgt := 4) hx hb d_Mo_searchArcs_207 (by decide) ?_
              exact ih_4 _ hm _ _ _ rfl ls H locs (lv_sub hl [2, 3, 1, 0] rfl) hP hD hS
          clear hJ_166
          refine lv_icmp_ge (tgt := 166) hx hb d_Mo_searchArcs_88 (by decide) (fun c_20 => ?_) (fun c_20 => ?_)
          · have hm := ite_t c_20 hm
            exact jp_166 ls H locs hm (lv_sub hl [0, 1, 2, 4, 5] rfl) hP hD hS
          · have hm := ite_f c_20 hm
            refine lv_iload hx hb d_Mo_searchArcs_91 (lv_at hl 5 rfl) ?_
            refine lv_if_ne (tgt := 166) hx hb d_Mo_searchArcs_93 (by decide) (fun c_21 => ?_) (fun c_21 => ?_)
            · have hm := ite_f c_21 hm
              exact jp_166 ls H locs hm (lv_sub hl [0, 1, 2, 4, 5] rfl) hP hD hS
            · have hm := ite_t c_21 hm
              refine lv_iconst (v := 1) hx hb d_Mo_searchArcs_96 (by decide) ?_
              refine lv_istore (lv' := [(7, .int 1), (0, .ref a0), (1, .int p1), (2, .int x2_1), (5, .int s_10), (6, .int x6_11)]) hx hb d_Mo_searchArcs_97 hl (by decide) rfl (fun ls hl => ?_)
              refine lv_iconst (v := 0) hx hb d_Mo_searchArcs_99 (by decide) ?_
              refine lv_istore (lv' := [(8, .int 0), (7, .int 1), (0, .ref a0), (1, .int p1), (2, .int x2_1), (5, .int s_10), (6, .int x6_11)]) hx hb d_Mo_searchArcs_100 hl (by decide) rfl (fun ls hl => ?_)
              refine gL_e (P := (fun (z_102 : Int32 × Int32) => ∀ (x7_22 : Int32), ∀ (x8_23 : Int32), z_102 = (x7_22, x8_23) → ∀ (ls : Array Slot) (H : Heap) (locs : List Loc), lv_has ls 9 [(0, .ref a0), (1, .int p1), (2, .int x2_1), (5, .int s_10), (6, .int x6_11), (7, .int x7_22), (8, .int x8_23)] → va_P (dC, dI) vwCl (wd_Mo_searchArcs cI cJ cG cZ a0 a0_from a0_to a0_near a0_lists a0_colours a0_shades a0_tints a0_attempt a0_taken a0_isApart a0_ways a0_next a0_splits a0_powers a0_row a0_many a0_can a0_could a0_arcRow a0_order a0_isOut v0_thrown v0_nodes v0_arcs v0_takenMany v0_leftBits v0_hasPolynomial v0_hasLists w0_from w0_to w0_arcRow_3) H → va_D A (wd_Mo_searchArcs cI cJ cG cZ a0 a0_from a0_to a0_near a0_lists a0_colours a0_shades a0_tints a0_attempt a0_taken a0_isApart a0_ways a0_next a0_splits a0_powers a0_row a0_many a0_can a0_could a0_arcRow a0_order a0_isOut v0_thrown v0_nodes v0_arcs v0_takenMany v0_leftBits v0_hasPolynomial v0_hasLists w0_from w0_to w0_arcRow_3) → va_S A s.heap H locs → W p l e (headSpec us_Mo_searchArcs rm_Mo_searchArcs).room s m ([.ref a0, .int p1] : List Value).toArray below meth c H locs 0 0 (MQ below (va_Qi (fun (r : Int32) (_ : Unit) => ret = r ∧ bz r) (fun _ t => PoS (dC, dI) (tyL cI cJ cG cZ) (wd_Mo_searchArcs cI cJ cG cZ a0 a0_from a0_to a0_near a0_lists a0_colours a0_shades a0_tints a0_attempt a0_taken a0_isApart a0_ways a0_next a0_splits a0_powers a0_row a0_many a0_can a0_could a0_arcRow a0_order a0_isOut v0_thrown v0_nodes v0_arcs v0_takenMany v0_leftBits v0_hasPolynomial v0_hasLists w0_from w0_to o_w0_arcRow) A t) A) ([.ref a0, .int p1] : List Value).toArray s 0 0 A) (F0 m 102 ls []))) hm (fun k_102 z_102 ih_102 hm => ?_) _ _ rfl ls H locs (lv_sub hl [2, 3, 4, 5, 6, 1, 0] rfl) hP hD hS
              intro x7_22 x8_23 hz ls H locs hl hP hD hS
              subst hz
              dsimp only at hm
              refine lv_iload hx hb d_Mo_searchArcs_102 (lv_at hl 6 rfl) ?_
              refine lv_iload_n hx hb d_Mo_searchArcs_104 rfl (lv_at hl 2 rfl) ?_
              refine lv_icmp_ge (tgt := 148) hx hb d_Mo_searchArcs_105 (by decide) (fun c_24 => ?_) (fun c_24 => ?_)
              · have hm := ite_t c_24 hm
                refine lv_iload hx hb d_Mo_searchArcs_148 (lv_at hl 4 rfl) ?_
                refine lv_iload hx hb d_Mo_searchArcs_150 (lv_at hl 5 rfl) ?_
                refine lv_if_eq (tgt := 159) hx hb d_Mo_searchArcs_152 (by decide) (fun c_25 => ?_) (fun c_25 => ?_)
                · have hm := ite_t c_25 hm
                  refine lv_iconst (v := 1) hx hb d_Mo_searchArcs_159 (by decide) ?_
                  refine lv_iadd hx hb d_Mo_searchArcs_160 ?_
                  refine lv_topi (fun x6_26 ex6_26 => ?_)
                  have hm := gB_at ex6_26 hm
                  refine lv_istore (lv' := [(6, .int x6_26), (0, .ref a0), (1, .int p1), (2, .int x2_1), (5, .int s_10), (7, .int x7_22), (8, .int x8_23)]) hx hb d_Mo_searchArcs_161 hl (by decide) rfl (fun ls hl => ?_)
                  refine lv_goto (tgt := 84) hx hb d_Mo_searchArcs_163 (by decide) ?_
                  exact ih_84 _ hm _ _ rfl ls H locs (lv_sub hl [1, 2, 3, 4, 0, 5] rfl) hP hD hS
                · have hm := ite_f c_25 hm
                  refine lv_iconst (v := 0) hx hb d_Mo_searchArcs_155 (by decide) ?_
                  refine lv_goto (tgt := 160) hx hb d_Mo_searchArcs_156 (by decide) ?_
                  refine lv_iadd hx hb d_Mo_searchArcs_160 ?_
                  refine lv_topi (fun x6_27 ex6_27 => ?_)
                  have hm := gB_at ex6_27 hm
                  refine lv_istore (lv' := [(6, .int x6_27), (0, .ref a0), (1, .int p1), (2, .int x2_1), (5, .int s_10), (7, .int x7_22), (8, .int x8_23)]) hx hb d_Mo_searchArcs_161 hl (by decide) rfl (fun ls hl => ?_)
                  refine lv_goto (tgt := 84) hx hb d_Mo_searchArcs_163 (by decide) ?_
                  exact ih_84 _ hm _ _ rfl ls H locs (lv_sub hl [1, 2, 3, 4, 0, 5] rfl) hP hD hS
              · have hm := ite_f c_24 hm
                refine lv_iload hx hb d_Mo_searchArcs_108 (lv_at hl 5 rfl) ?_
                refine lv_if_eq (tgt := 139) hx hb d_Mo_searchArcs_110 (by decide) (fun c_28 => ?_) (fun c_28 => ?_)
                · have hm := ite_t c_28 hm
                  refine lv_iconst (v := 0) hx hb d_Mo_searchArcs_139 (by decide) ?_
                  refine lv_istore (lv' := [(7, .int 0), (0, .ref a0), (1, .int p1), (2, .int x2_1), (5, .int s_10), (6, .int x6_11), (8, .int x8_23)]) hx hb d_Mo_searchArcs_140 hl (by decide) rfl (fun ls hl => ?_)
                  obtain ⟨x8_29, ex8_29⟩ : ∃ y : Int32, y = x8_23 + 1 := ⟨_, rfl⟩
                  have hm := gB_at ex8_29 hm
                  refine lv_iinc (v := x8_29) (lv' := [(8, .int x8_29), (7, .int 0), (0, .ref a0), (1, .int p1), (2, .int x2_1), (5, .int s_10), (6, .int x6_11)]) hx hb d_Mo_searchArcs_142 hl (k := 6) rfl (by rw [ex8_29]; rfl) (by decide) rfl (fun ls hl => ?_)
                  refine lv_goto (tgt := 102) hx hb d_Mo_searchArcs_145 (by decide) ?_
                  exact ih_102 _ hm _ _ rfl ls H locs (lv_sub hl [2, 3, 4, 5, 6, 1, 0] rfl) hP hD hS
                · have hm := ite_f c_28 hm
                  refine lv_aload_n hx hb d_Mo_searchArcs_113 rfl (lv_at hl 0 rfl) ?_
                  refine va_get (D := (dC, dI)) (ci := 8) (v := .ref a0_arcRow) (C := R_Mo) (T := T_Mo) (N := 28) hx hb htt hin_Mo hown hK hP 0 rfl rfl 25 (by decide) (htt _ kt_794) (fun _ h9 => h9) rfl d_Mo_searchArcs_114 ?_
                  refine lv_iload hx hb d_Mo_searchArcs_117 (lv_at hl 6 rfl) ?_
                  obtain ⟨hi_30, hm⟩ := gC_e hm
                  refine va_iald hx hb hK hP 3 0 rfl rfl (inb_vp hi_30) d_Mo_searchArcs_119 ?_
                  refine lv_iload hx hb d_Mo_searchArcs_120 (lv_at hl 4 rfl) ?_
                  obtain ⟨J_135, hJ_135, hm⟩ := gB_x hm
                  have jp_135 : ∀ (ls : Array Slot) (H : Heap) (locs : List Loc), J_135 = some (ret, o_w0_arcRow) → lv_has ls 9 [(0, .ref a0), (1, .int p1), (2, .int x2_1), (5, .int s_10), (6, .int x6_11), (8, .int x8_23)] → va_P (dC, dI) vwCl (wd_Mo_searchArcs cI cJ cG cZ a0 a0_from a0_to a0_near a0_lists a0_colours a0_shades a0_tints a0_attempt a0_taken a0_isApart a0_ways a0_next a0_splits a0_powers a0_row a0_many a0_can a0_could a0_arcRow a0_order a0_isOut v0_thrown v0_nodes v0_arcs v0_takenMany v0_leftBits v0_hasPolynomial v0_hasLists w0_from w0_to w0_arcRow_3) H → va_D A (wd_Mo_searchArcs cI cJ cG cZ a0 a0_from a0_to a0_near a0_lists a0_colours a0_shades a0_tints a0_attempt a0_taken a0_isApart a0_ways a0_next a0_splits a0_powers a0_row a0_many a0_can a0_could a0_arcRow a0_order a0_isOut v0_thrown v0_nodes v0_arcs v0_takenMany v0_leftBits v0_hasPolynomial v0_hasLists w0_from w0_to w0_arcRow_3) → va_S A s.heap H locs → W p l e (headSpec us_Mo_searchArcs rm_Mo_searchArcs).room s m ([.ref a0, .int p1] : List Value).toArray below meth c H locs 0 0 (MQ below (va_Qi (fun (r : Int32) (_ : Unit) => ret = r ∧ bz r) (fun _ t => PoS (dC, dI) (tyL cI cJ cG cZ) (wd_Mo_searchArcs cI cJ cG cZ a0 a0_from a0_to a0_near a0_lists a0_colours a0_shades a0_tints a0_attempt a0_taken a0_isApart a0_ways a0_next a0_splits a0_powers a0_row a0_many a0_can a0_could a0_arcRow a0_order a0_isOut v0_thrown v0_nodes v0_arcs v0_takenMany v0_leftBits v0_hasPolynomial v0_hasLists w0_from w0_to o_w0_arcRow) A t) A) ([.ref a0, .int p1] : List Value).toArray s 0 0 A) (F0 m 135 ls []) := by
                    intro ls H locs hm hl hP hD hS
                    have hm := jn0 hJ_135 hm
                    refine lv_iconst (v := 1) hx hb d_Mo_searchArcs_135 (by decide) ?_
                    refine lv_goto (tgt := 140) hx hb d_Mo_searchArcs_136 (by decide) ?_
                    refine lv_istore (lv' := [(7, .int 1), (0, .ref a0), (1, .int p1), (2, .int x2_1), (5, .int s_10), (6, .int x6_11), (8, .int x8_23)]) hx hb d_Mo_searchArcs_140 hl (by decide) rfl (fun ls hl => ?_)
                    obtain ⟨x8_31, ex8_31⟩ : ∃ y : Int32, y = x8_23 + 1 := ⟨_, rfl⟩
                    have hm := gB_at ex8_31 hm
                    refine lv_iinc (v := x8_31) (lv' := [(8, .int x8_31), (7, .int 1), (0, .ref a0), (1, .int p1), (2, .int x2_1), (5, .int s_10), (6, .int x6_11)]) hx hb d_Mo_searchArcs_142 hl (k := 6) rfl (by rw [ex8_31]; rfl) (by decide) rfl (fun ls hl => ?_)
                    refine lv_goto (tgt := 102) hx hb d_Mo_searchArcs_145 (by decide) ?_
                    exact ih_102 _ hm _ _ rfl ls H locs (lv_sub hl [2, 3, 4, 5, 6, 1, 0] rfl) hP hD hS
                  clear hJ_135
                  refine lv_icmp_ne (tgt := 135) hx hb d_Mo_searchArcs_122 (by decide) (fun c_32 => ?_) (fun c_32 => ?_)
                  · have hm := ite_f c_32 hm
                    exact jp_135 ls H locs hm (lv_sub hl [0, 1, 2, 3, 4, 6] rfl) hP hD hS
                  · have hm := ite_t c_32 hm
                    refine lv_aload_n hx hb d_Mo_searchArcs_125 rfl (lv_at hl 0 rfl) ?_
                    refine lv_iload hx hb d_Mo_searchArcs_126 (lv_at hl 6 rfl) ?_
                    refine lv_iload_n hx hb d_Mo_searchArcs_128 rfl (lv_at hl 2 rfl) ?_
                    obtain ⟨q_33, hc_34, hm⟩ := gM_e hm
                    have hPc : va_P (dC, dI) vwCl (wd_Mo_meet cI cJ cG cZ a0 a0_from a0_to a0_near a0_lists a0_colours a0_shades a0_tints a0_attempt a0_taken a0_isApart a0_ways a0_next a0_splits a0_powers a0_row a0_many a0_can a0_could a0_arcRow a0_order a0_isOut v0_thrown v0_nodes v0_arcs v0_takenMany v0_leftBits v0_hasPolynomial v0_hasLists w0_from w0_to) H := hP.sub [0, 1, 2] rfl
                    have hDc : va_D A (wd_Mo_meet cI cJ cG cZ a0 a0_from a0_to a0_near a0_lists a0_colours a0_shades a0_tints a0_attempt a0_taken a0_isApart a0_ways a0_next a0_splits a0_powers a0_row a0_many a0_can a0_could a0_arcRow a0_order a0_isOut v0_thrown v0_nodes v0_arcs v0_takenMany v0_leftBits v0_hasPolynomial v0_hasLists w0_from w0_to) := hD.sub [0, 1, 2] (by decide) rfl
                    have hFc : ∀ q, va_A (wd_Mo_meet cI cJ cG cZ a0 a0_from a0_to a0_near a0_lists a0_colours a0_shades a0_tints a0_attempt a0_taken a0_isApart a0_ways a0_next a0_splits a0_powers a0_row a0_many a0_can a0_could a0_arcRow a0_order a0_isOut v0_thrown v0_nodes v0_arcs v0_takenMany v0_leftBits v0_hasPolynomial v0_hasLists w0_from w0_to) H.size q → A q := va_free hD hS hA [0, 1, 2] rfl
                    refine va_calli (va_runV (As := [.int x8_23, .int x2_1]) (rest := []) ⟨hx, hb, hml, hown, htt⟩ (c_Mo_meet l dC dI cI cJ cG cZ a0 a0_from a0_to a0_near a0_lists a0_colours a0_shades a0_tints a0_attempt a0_taken a0_isApart a0_ways a0_next a0_splits a0_powers a0_row a0_many a0_can a0_could a0_arcRow a0_order a0_isOut H.size F v0_thrown v0_nodes v0_arcs v0_takenMany v0_leftBits v0_hasPolynomial v0_hasLists w0_from w0_to x8_23 x2_1 q_33 hc_34) (cwV 2 htt (gdV kt_956 kt_958 kp_54 kt_10 kt_959) rfl rfl rfl (by decide +kernel) ⟨(Nat.le_of_ble_eq_true rfl), (Nat.le_of_ble_eq_true rfl)⟩) ⟨PcS_blind, va_recv hK hPc (ci := 8) (q0 := 0) rfl rfl, PcS_in hPc hK hDc hNw⟩ rfl rfl hl.1 rfl (lv_room (Nat.le_of_ble_eq_true rfl)) d_Mo_searchArcs_129 ⟨Nat.zero_le _, Nat.zero_le _⟩) hS (fun q _ h => hFc q h) hFc (fun r_35 u t H1 locs ht hvm hw hB hz1 hk1 hS => ?_)
                    obtain ⟨hP1, hK1, hD1⟩ := hB
                    rw [ht] at hP1
                    obtain ⟨hw, hz_36⟩ := hw
                    subst hw
                    obtain ⟨hP, hD⟩ := va_join (wr := [(a0_arcRow, .inl (cI, 40, .inl w0_arcRow_3))]) (w1 := (wd_Mo_meet cI cJ cG cZ a0 a0_from a0_to a0_near a0_lists a0_colours a0_shades a0_tints a0_attempt a0_taken a0_isApart a0_ways a0_next a0_splits a0_powers a0_row a0_many a0_can a0_could a0_arcRow a0_order a0_isOut v0_thrown v0_nodes v0_arcs v0_takenMany v0_leftBits v0_hasPolynomial v0_hasLists w0_from w0_to)) hP hD [0, 1, 2] [3] rfl rfl (by decide) (by decide) hk1 hFc hP1 hD1
                    have hP : va_P (dC, dI) vwCl (wd_Mo_searchArcs cI cJ cG cZ a0 a0_from a0_to a0_near a0_lists a0_colours a0_shades a0_tints a0_attempt a0_taken a0_isApart a0_ways a0_next a0_splits a0_powers a0_row a0_many a0_can a0_could a0_arcRow a0_order a0_isOut v0_thrown v0_nodes v0_arcs v0_takenMany v0_leftBits v0_hasPolynomial v0_hasLists w0_from w0_to w0_arcRow_3) H1 := hP.sub [1, 2, 3, 0] rfl
                    have hD : va_D A (wd_Mo_searchArcs cI cJ cG cZ a0 a0_from a0_to a0_near a0_lists a0_colours a0_shades a0_tints a0_attempt a0_taken a0_isApart a0_ways a0_next a0_splits a0_powers a0_row a0_many a0_can a0_could a0_arcRow a0_order a0_isOut v0_thrown v0_nodes v0_arcs v0_takenMany v0_leftBits v0_hasPolynomial v0_hasLists w0_from w0_to w0_arcRow_3) := hD.sub [1, 2, 3, 0] (by decide) rfl
                    clear hP1 hK1 hD1 hk1 hPc hDc hFc ht hvm hz1
                    generalize H1 = H at hP hS ⊢
                    refine lv_if_ne (tgt := 139) hx hb d_Mo_searchArcs_132 (by decide) (fun c_37 => ?_) (fun c_37 => ?_)
                    · have hm := ite_f c_37 hm
                      refine lv_iconst (v := 0) hx hb d_Mo_searchArcs_139 (by decide) ?_
                      refine lv_istore (lv' := [(7, .int 0), (0, .ref a0), (1, .int p1), (2, .int x2_1), (5, .int s_10), (6, .int x6_11), (8, .int x8_23)]) hx hb d_Mo_searchArcs_140 hl (by decide) rfl (fun ls hl => ?_)
                      obtain ⟨x8_38, ex8_38⟩ : ∃ y : Int32, y = x8_23 + 1 := ⟨_, rfl⟩
                      have hm := gB_at ex8_38 hm
                      refine lv_iinc (v := x8_38) (lv' := [(8, .int x8_38), (7, .int 0), (0, .ref a0), (1, .int p1), (2, .int x2_1), (5, .int s_10), (6, .int x6_11)]) hx hb d_Mo_searchArcs_142 hl (k := 6) rfl (by rw [ex8_38]; rfl) (by decide) rfl (fun ls hl => ?_)
                      refine lv_goto (tgt := 102) hx hb d_Mo_searchArcs_145 (by decide) ?_
                      exact ih_102 _ hm _ _ rfl ls H locs (lv_sub hl [2, 3, 4, 5, 6, 1, 0] rfl) hP hD hS
                    · have hm := ite_t c_37 hm
                      exact jp_135 ls H locs hm (lv_sub hl [0, 1, 2, 3, 4, 6] rfl) hP hD hS
        clear hJ_76
        refine lv_icmp_ge (tgt := 75) hx hb d_Mo_searchArcs_65 (by decide) (fun c_39 => ?_) (fun c_39 => ?_)
        · have hm := ite_t c_39 hm
          refine lv_iload_n hx hb d_Mo_searchArcs_75 rfl (lv_at hl 1 rfl) ?_
          exact jp_76 _ ls H locs hm (lv_sub hl [0, 1, 2, 3] rfl) hP hD hS
        · have hm := ite_f c_39 hm
          refine lv_iload hx hb d_Mo_searchArcs_68 (lv_at hl 4 rfl) ?_
          refine lv_iconst (v := 1) hx hb d_Mo_searchArcs_70 (by decide) ?_
          refine lv_iadd hx hb d_Mo_searchArcs_71 ?_
          refine lv_goto (tgt := 76) hx hb d_Mo_searchArcs_72 (by decide) ?_
          exact jp_76 _ ls H locs hm (lv_sub hl [0, 1, 2, 3] rfl) hP hD hS
      · have hm := ite_f c_9 hm
        refine lv_aload_n hx hb d_Mo_searchArcs_28 rfl (lv_at hl 0 rfl) ?_
        refine va_get (D := (dC, dI)) (ci := 8) (v := .ref a0_arcRow) (C := R_Mo) (T := T_Mo) (N := 28) hx hb htt hin_Mo hown hK hP 0 rfl rfl 25 (by decide) (htt _ kt_794) (fun _ h9 => h9) rfl d_Mo_searchArcs_29 ?_
        refine lv_iload hx hb d_Mo_searchArcs_32 (lv_at hl 5 rfl) ?_
        obtain ⟨hi_40, hm⟩ := gC_e hm
        refine va_iald hx hb hK hP 3 0 rfl rfl (inb_vp hi_40) d_Mo_searchArcs_34 ?_
        refine lv_iload hx hb d_Mo_searchArcs_35 (lv_at hl 4 rfl) ?_
        refine lv_icmp_lt (tgt := 52) hx hb d_Mo_searchArcs_37 (by decide) (fun c_41 => ?_) (fun c_41 => ?_)
        · have hm := ite_t c_41 hm
          refine lv_iload hx hb d_Mo_searchArcs_52 (lv_at hl 4 rfl) ?_
          refine lv_istore (lv' := [(4, .int x4_7), (0, .ref a0), (1, .int p1), (2, .int x2_1), (3, .int x3_2), (5, .int x5_8)]) hx hb d_Mo_searchArcs_54 hl (by decide) rfl (fun ls hl => ?_)
          obtain ⟨x5_42, ex5_42⟩ : ∃ y : Int32, y = x5_8 + 1 := ⟨_, rfl⟩
          have hm := gB_at ex5_42 hm
          refine lv_iinc (v := x5_42) (lv' := [(5, .int x5_42), (4, .int x4_7), (0, .ref a0), (1, .int p1), (2, .int x2_1), (3, .int x3_2)]) hx hb d_Mo_searchArcs_56 hl (k := 5) rfl (by rw [ex5_42]; rfl) (by decide) rfl (fun ls hl => ?_)
          refine lv_goto (tgt := 22) hx hb d_Mo_searchArcs_59 (by decide) ?_
          exact ih_22 _ hm _ _ rfl ls H locs (lv_sub hl [2, 3, 4, 5, 1, 0] rfl) hP hD hS
        · have hm := ite_f c_41 hm
          refine lv_aload_n hx hb d_Mo_searchArcs_40 rfl (lv_at hl 0 rfl) ?_
          refine va_get (D := (dC, dI)) (ci := 8) (v := .ref a0_arcRow) (C := R_Mo) (T := T_Mo) (N := 28) hx hb htt hin_Mo hown hK hP 0 rfl rfl 25 (by decide) (htt _ kt_794) (fun _ h9 => h9) rfl d_Mo_searchArcs_41 ?_
          refine lv_iload hx hb d_Mo_searchArcs_44 (lv_at hl 5 rfl) ?_
          obtain ⟨hi_43, hm⟩ := gC_e hm
          refine va_iald hx hb hK hP 3 0 rfl rfl (inb_vp hi_43) d_Mo_searchArcs_46 ?_
          refine lv_iconst (v := 1) hx hb d_Mo_searchArcs_47 (by decide) ?_
          refine lv_iadd hx hb d_Mo_searchArcs_48 ?_
          refine lv_goto (tgt := 54) hx hb d_Mo_searchArcs_49 (by decide) ?_
          refine lv_topi (fun x4_44 ex4_44 => ?_)
          have hm := gB_at ex4_44 hm
          refine lv_istore (lv' := [(4, .int x4_44), (0, .ref a0), (1, .int p1), (2, .int x2_1), (3, .int x3_2), (5, .int x5_8)]) hx hb d_Mo_searchArcs_54 hl (by decide) rfl (fun ls hl => ?_)
          obtain ⟨x5_45, ex5_45⟩ : ∃ y : Int32, y = x5_8 + 1 := ⟨_, rfl⟩
          have hm := gB_at ex5_45 hm
          refine lv_iinc (v := x5_45) (lv' := [(5, .int x5_45), (4, .int x4_44), (0, .ref a0), (1, .int p1), (2, .int x2_1), (3, .int x3_2)]) hx hb d_Mo_searchArcs_56 hl (k := 5) rfl (by rw [ex5_45]; rfl) (by decide) rfl (fun ls hl => ?_)
          refine lv_goto (tgt := 22) hx hb d_Mo_searchArcs_59 (by decide) ?_
          exact ih_22 _ hm _ _ rfl ls H locs (lv_sub hl [2, 3, 4, 5, 1, 0] rfl) hP hD hS
