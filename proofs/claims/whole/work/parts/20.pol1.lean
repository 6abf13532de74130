theorem d_Pol_splitTop_0 : decode prog_6_method_8_code 0 = .ok (.aload_n 0, 1) := by decide +kernel
theorem d_Pol_splitTop_1 : decode prog_6_method_8_code 1 = .ok (.iload_n 1, 1) := by decide +kernel
theorem d_Pol_splitTop_2 : decode prog_6_method_8_code 2 = .ok (.aload_n 0, 1) := by decide +kernel
theorem d_Pol_splitTop_3 : decode prog_6_method_8_code 3 = .ok (.getfield 13, 3) := by decide +kernel
theorem d_Pol_splitTop_6 : decode prog_6_method_8_code 6 = .ok (.iload_n 1, 1) := by decide +kernel
theorem d_Pol_splitTop_7 : decode prog_6_method_8_code 7 = .ok (.aaload, 1) := by decide +kernel
theorem d_Pol_splitTop_8 : decode prog_6_method_8_code 8 = .ok (.aload_n 0, 1) := by decide +kernel
theorem d_Pol_splitTop_9 : decode prog_6_method_8_code 9 = .ok (.iload_n 1, 1) := by decide +kernel
theorem d_Pol_splitTop_10 : decode prog_6_method_8_code 10 = .ok (.invokevirtual 85, 3) := by decide +kernel
theorem d_Pol_splitTop_13 : decode prog_6_method_8_code 13 = .ok (.iaload, 1) := by decide +kernel
theorem d_Pol_splitTop_14 : decode prog_6_method_8_code 14 = .ok (.aload_n 0, 1) := by decide +kernel
theorem d_Pol_splitTop_15 : decode prog_6_method_8_code 15 = .ok (.getfield 16, 3) := by decide +kernel
theorem d_Pol_splitTop_18 : decode prog_6_method_8_code 18 = .ok (.iload_n 1, 1) := by decide +kernel
theorem d_Pol_splitTop_19 : decode prog_6_method_8_code 19 = .ok (.iaload, 1) := by decide +kernel
theorem d_Pol_splitTop_20 : decode prog_6_method_8_code 20 = .ok (.iand, 1) := by decide +kernel
theorem d_Pol_splitTop_21 : decode prog_6_method_8_code 21 = .ok (.invokevirtual 75, 3) := by decide +kernel
theorem d_Pol_splitTop_24 : decode prog_6_method_8_code 24 = .ok (.istore_n 2, 1) := by decide +kernel
theorem d_Pol_splitTop_25 : decode prog_6_method_8_code 25 = .ok (.iload_n 2, 1) := by decide +kernel
theorem d_Pol_splitTop_26 : decode prog_6_method_8_code 26 = .ok (.invokestatic 88, 3) := by decide +kernel
theorem d_Pol_splitTop_29 : decode prog_6_method_8_code 29 = .ok (.istore_n 3, 1) := by decide +kernel
theorem d_Pol_splitTop_30 : decode prog_6_method_8_code 30 = .ok (.iload_n 2, 1) := by decide +kernel
theorem d_Pol_splitTop_31 : decode prog_6_method_8_code 31 = .ok (.iload_n 2, 1) := by decide +kernel
theorem d_Pol_splitTop_32 : decode prog_6_method_8_code 32 = .ok (.iconst 1, 1) := by decide +kernel
theorem d_Pol_splitTop_33 : decode prog_6_method_8_code 33 = .ok (.isub, 1) := by decide +kernel
theorem d_Pol_splitTop_34 : decode prog_6_method_8_code 34 = .ok (.iand, 1) := by decide +kernel
theorem d_Pol_splitTop_35 : decode prog_6_method_8_code 35 = .ok (.invokestatic 88, 3) := by decide +kernel
theorem d_Pol_splitTop_38 : decode prog_6_method_8_code 38 = .ok (.istore 4, 2) := by decide +kernel
theorem d_Pol_splitTop_40 : decode prog_6_method_8_code 40 = .ok (.aload_n 0, 1) := by decide +kernel
theorem d_Pol_splitTop_41 : decode prog_6_method_8_code 41 = .ok (.getfield 13, 3) := by decide +kernel
theorem d_Pol_splitTop_44 : decode prog_6_method_8_code 44 = .ok (.iload_n 1, 1) := by decide +kernel
theorem d_Pol_splitTop_45 : decode prog_6_method_8_code 45 = .ok (.aaload, 1) := by decide +kernel
theorem d_Pol_splitTop_46 : decode prog_6_method_8_code 46 = .ok (.iconst 0, 1) := by decide +kernel
theorem d_Pol_splitTop_47 : decode prog_6_method_8_code 47 = .ok (.aload_n 0, 1) := by decide +kernel
theorem d_Pol_splitTop_48 : decode prog_6_method_8_code 48 = .ok (.getfield 13, 3) := by decide +kernel
theorem d_Pol_splitTop_51 : decode prog_6_method_8_code 51 = .ok (.iload_n 1, 1) := by decide +kernel
theorem d_Pol_splitTop_52 : decode prog_6_method_8_code 52 = .ok (.iconst 1, 1) := by decide +kernel
theorem d_Pol_splitTop_53 : decode prog_6_method_8_code 53 = .ok (.iadd, 1) := by decide +kernel
theorem d_Pol_splitTop_54 : decode prog_6_method_8_code 54 = .ok (.aaload, 1) := by decide +kernel
theorem d_Pol_splitTop_55 : decode prog_6_method_8_code 55 = .ok (.iconst 0, 1) := by decide +kernel
theorem d_Pol_splitTop_56 : decode prog_6_method_8_code 56 = .ok (.bipush 12, 2) := by decide +kernel
theorem d_Pol_splitTop_58 : decode prog_6_method_8_code 58 = .ok (.invokestatic 53, 3) := by decide +kernel
theorem d_Pol_splitTop_61 : decode prog_6_method_8_code 61 = .ok (.aload_n 0, 1) := by decide +kernel
theorem d_Pol_splitTop_62 : decode prog_6_method_8_code 62 = .ok (.getfield 16, 3) := by decide +kernel
theorem d_Pol_splitTop_65 : decode prog_6_method_8_code 65 = .ok (.iload_n 1, 1) := by decide +kernel
theorem d_Pol_splitTop_66 : decode prog_6_method_8_code 66 = .ok (.iconst 1, 1) := by decide +kernel
theorem d_Pol_splitTop_67 : decode prog_6_method_8_code 67 = .ok (.iadd, 1) := by decide +kernel
theorem d_Pol_splitTop_68 : decode prog_6_method_8_code 68 = .ok (.aload_n 0, 1) := by decide +kernel
theorem d_Pol_splitTop_69 : decode prog_6_method_8_code 69 = .ok (.getfield 16, 3) := by decide +kernel
theorem d_Pol_splitTop_72 : decode prog_6_method_8_code 72 = .ok (.iload_n 1, 1) := by decide +kernel
theorem d_Pol_splitTop_73 : decode prog_6_method_8_code 73 = .ok (.iaload, 1) := by decide +kernel
theorem d_Pol_splitTop_74 : decode prog_6_method_8_code 74 = .ok (.iastore, 1) := by decide +kernel
theorem d_Pol_splitTop_75 : decode prog_6_method_8_code 75 = .ok (.aload_n 0, 1) := by decide +kernel
theorem d_Pol_splitTop_76 : decode prog_6_method_8_code 76 = .ok (.getfield 20, 3) := by decide +kernel
theorem d_Pol_splitTop_79 : decode prog_6_method_8_code 79 = .ok (.iload_n 1, 1) := by decide +kernel
theorem d_Pol_splitTop_80 : decode prog_6_method_8_code 80 = .ok (.iconst 1, 1) := by decide +kernel
theorem d_Pol_splitTop_81 : decode prog_6_method_8_code 81 = .ok (.iadd, 1) := by decide +kernel
theorem d_Pol_splitTop_82 : decode prog_6_method_8_code 82 = .ok (.aload_n 0, 1) := by decide +kernel
theorem d_Pol_splitTop_83 : decode prog_6_method_8_code 83 = .ok (.getfield 20, 3) := by decide +kernel
theorem d_Pol_splitTop_86 : decode prog_6_method_8_code 86 = .ok (.iload_n 1, 1) := by decide +kernel
theorem d_Pol_splitTop_87 : decode prog_6_method_8_code 87 = .ok (.laload, 1) := by decide +kernel
theorem d_Pol_splitTop_88 : decode prog_6_method_8_code 88 = .ok (.lastore, 1) := by decide +kernel
theorem d_Pol_splitTop_89 : decode prog_6_method_8_code 89 = .ok (.aload_n 0, 1) := by decide +kernel
theorem d_Pol_splitTop_90 : decode prog_6_method_8_code 90 = .ok (.getfield 13, 3) := by decide +kernel
theorem d_Pol_splitTop_93 : decode prog_6_method_8_code 93 = .ok (.iload_n 1, 1) := by decide +kernel
theorem d_Pol_splitTop_94 : decode prog_6_method_8_code 94 = .ok (.iconst 1, 1) := by decide +kernel
theorem d_Pol_splitTop_95 : decode prog_6_method_8_code 95 = .ok (.iadd, 1) := by decide +kernel
theorem d_Pol_splitTop_96 : decode prog_6_method_8_code 96 = .ok (.aaload, 1) := by decide +kernel
theorem d_Pol_splitTop_97 : decode prog_6_method_8_code 97 = .ok (.iload_n 3, 1) := by decide +kernel
theorem d_Pol_splitTop_98 : decode prog_6_method_8_code 98 = .ok (.dup2, 1) := by decide +kernel
theorem d_Pol_splitTop_99 : decode prog_6_method_8_code 99 = .ok (.iaload, 1) := by decide +kernel
theorem d_Pol_splitTop_100 : decode prog_6_method_8_code 100 = .ok (.iconst 1, 1) := by decide +kernel
theorem d_Pol_splitTop_101 : decode prog_6_method_8_code 101 = .ok (.iload 4, 2) := by decide +kernel
theorem d_Pol_splitTop_103 : decode prog_6_method_8_code 103 = .ok (.ishl, 1) := by decide +kernel
theorem d_Pol_splitTop_104 : decode prog_6_method_8_code 104 = .ok (.ior, 1) := by decide +kernel
theorem d_Pol_splitTop_105 : decode prog_6_method_8_code 105 = .ok (.iastore, 1) := by decide +kernel
theorem d_Pol_splitTop_106 : decode prog_6_method_8_code 106 = .ok (.aload_n 0, 1) := by decide +kernel
theorem d_Pol_splitTop_107 : decode prog_6_method_8_code 107 = .ok (.getfield 13, 3) := by decide +kernel
theorem d_Pol_splitTop_110 : decode prog_6_method_8_code 110 = .ok (.iload_n 1, 1) := by decide +kernel
theorem d_Pol_splitTop_111 : decode prog_6_method_8_code 111 = .ok (.iconst 1, 1) := by decide +kernel
theorem d_Pol_splitTop_112 : decode prog_6_method_8_code 112 = .ok (.iadd, 1) := by decide +kernel
theorem d_Pol_splitTop_113 : decode prog_6_method_8_code 113 = .ok (.aaload, 1) := by decide +kernel
theorem d_Pol_splitTop_114 : decode prog_6_method_8_code 114 = .ok (.iload 4, 2) := by decide +kernel
theorem d_Pol_splitTop_116 : decode prog_6_method_8_code 116 = .ok (.dup2, 1) := by decide +kernel
theorem d_Pol_splitTop_117 : decode prog_6_method_8_code 117 = .ok (.iaload, 1) := by decide +kernel
theorem d_Pol_splitTop_118 : decode prog_6_method_8_code 118 = .ok (.iconst 1, 1) := by decide +kernel
theorem d_Pol_splitTop_119 : decode prog_6_method_8_code 119 = .ok (.iload_n 3, 1) := by decide +kernel
theorem d_Pol_splitTop_120 : decode prog_6_method_8_code 120 = .ok (.ishl, 1) := by decide +kernel
theorem d_Pol_splitTop_121 : decode prog_6_method_8_code 121 = .ok (.ior, 1) := by decide +kernel
theorem d_Pol_splitTop_122 : decode prog_6_method_8_code 122 = .ok (.iastore, 1) := by decide +kernel
theorem d_Pol_splitTop_123 : decode prog_6_method_8_code 123 = .ok (.aload_n 0, 1) := by decide +kernel
theorem d_Pol_splitTop_124 : decode prog_6_method_8_code 124 = .ok (.getfield 13, 3) := by decide +kernel
theorem d_Pol_splitTop_127 : decode prog_6_method_8_code 127 = .ok (.iload_n 1, 1) := by decide +kernel
theorem d_Pol_splitTop_128 : decode prog_6_method_8_code 128 = .ok (.aaload, 1) := by decide +kernel
theorem d_Pol_splitTop_129 : decode prog_6_method_8_code 129 = .ok (.astore 5, 2) := by decide +kernel
theorem d_Pol_splitTop_131 : decode prog_6_method_8_code 131 = .ok (.aload 5, 2) := by decide +kernel
theorem d_Pol_splitTop_133 : decode prog_6_method_8_code 133 = .ok (.iload_n 3, 1) := by decide +kernel
theorem d_Pol_splitTop_134 : decode prog_6_method_8_code 134 = .ok (.dup2, 1) := by decide +kernel
theorem d_Pol_splitTop_135 : decode prog_6_method_8_code 135 = .ok (.iaload, 1) := by decide +kernel
theorem d_Pol_splitTop_136 : decode prog_6_method_8_code 136 = .ok (.aload 5, 2) := by decide +kernel
theorem d_Pol_splitTop_138 : decode prog_6_method_8_code 138 = .ok (.iload 4, 2) := by decide +kernel
theorem d_Pol_splitTop_140 : decode prog_6_method_8_code 140 = .ok (.iaload, 1) := by decide +kernel
theorem d_Pol_splitTop_141 : decode prog_6_method_8_code 141 = .ok (.ior, 1) := by decide +kernel
theorem d_Pol_splitTop_142 : decode prog_6_method_8_code 142 = .ok (.iastore, 1) := by decide +kernel
theorem d_Pol_splitTop_143 : decode prog_6_method_8_code 143 = .ok (.iconst 0, 1) := by decide +kernel
theorem d_Pol_splitTop_144 : decode prog_6_method_8_code 144 = .ok (.istore 6, 2) := by decide +kernel
theorem d_Pol_splitTop_146 : decode prog_6_method_8_code 146 = .ok (.iload 6, 2) := by decide +kernel
theorem d_Pol_splitTop_148 : decode prog_6_method_8_code 148 = .ok (.bipush 12, 2) := by decide +kernel
theorem d_Pol_splitTop_150 : decode prog_6_method_8_code 150 = .ok (.if_icmp .ge 33, 3) := by decide +kernel
theorem d_Pol_splitTop_153 : decode prog_6_method_8_code 153 = .ok (.aload 5, 2) := by decide +kernel
theorem d_Pol_splitTop_155 : decode prog_6_method_8_code 155 = .ok (.iload 4, 2) := by decide +kernel
theorem d_Pol_splitTop_157 : decode prog_6_method_8_code 157 = .ok (.iaload, 1) := by decide +kernel
theorem d_Pol_splitTop_158 : decode prog_6_method_8_code 158 = .ok (.iload 6, 2) := by decide +kernel
theorem d_Pol_splitTop_160 : decode prog_6_method_8_code 160 = .ok (.ishr, 1) := by decide +kernel
theorem d_Pol_splitTop_161 : decode prog_6_method_8_code 161 = .ok (.iconst 1, 1) := by decide +kernel
theorem d_Pol_splitTop_162 : decode prog_6_method_8_code 162 = .ok (.iand, 1) := by decide +kernel
theorem d_Pol_splitTop_163 : decode prog_6_method_8_code 163 = .ok (.ifCond .eq 14, 3) := by decide +kernel
theorem d_Pol_splitTop_166 : decode prog_6_method_8_code 166 = .ok (.aload 5, 2) := by decide +kernel
theorem d_Pol_splitTop_168 : decode prog_6_method_8_code 168 = .ok (.iload 6, 2) := by decide +kernel
theorem d_Pol_splitTop_170 : decode prog_6_method_8_code 170 = .ok (.dup2, 1) := by decide +kernel
theorem d_Pol_splitTop_171 : decode prog_6_method_8_code 171 = .ok (.iaload, 1) := by decide +kernel
theorem d_Pol_splitTop_172 : decode prog_6_method_8_code 172 = .ok (.iconst 1, 1) := by decide +kernel
theorem d_Pol_splitTop_173 : decode prog_6_method_8_code 173 = .ok (.iload_n 3, 1) := by decide +kernel
theorem d_Pol_splitTop_174 : decode prog_6_method_8_code 174 = .ok (.ishl, 1) := by decide +kernel
theorem d_Pol_splitTop_175 : decode prog_6_method_8_code 175 = .ok (.ior, 1) := by decide +kernel
theorem d_Pol_splitTop_176 : decode prog_6_method_8_code 176 = .ok (.iastore, 1) := by decide +kernel
theorem d_Pol_splitTop_177 : decode prog_6_method_8_code 177 = .ok (.iinc 6 1, 3) := by decide +kernel
theorem d_Pol_splitTop_180 : decode prog_6_method_8_code 180 = .ok (.goto (-34), 3) := by decide +kernel
theorem d_Pol_splitTop_183 : decode prog_6_method_8_code 183 = .ok (.aload_n 0, 1) := by decide +kernel
theorem d_Pol_splitTop_184 : decode prog_6_method_8_code 184 = .ok (.getfield 16, 3) := by decide +kernel
theorem d_Pol_splitTop_187 : decode prog_6_method_8_code 187 = .ok (.iload_n 1, 1) := by decide +kernel
theorem d_Pol_splitTop_188 : decode prog_6_method_8_code 188 = .ok (.dup2, 1) := by decide +kernel
theorem d_Pol_splitTop_189 : decode prog_6_method_8_code 189 = .ok (.iaload, 1) := by decide +kernel
theorem d_Pol_splitTop_190 : decode prog_6_method_8_code 190 = .ok (.iconst 1, 1) := by decide +kernel
theorem d_Pol_splitTop_191 : decode prog_6_method_8_code 191 = .ok (.iload 4, 2) := by decide +kernel
theorem d_Pol_splitTop_193 : decode prog_6_method_8_code 193 = .ok (.ishl, 1) := by decide +kernel
theorem d_Pol_splitTop_194 : decode prog_6_method_8_code 194 = .ok (.iconst (-1), 1) := by decide +kernel
theorem d_Pol_splitTop_195 : decode prog_6_method_8_code 195 = .ok (.ixor, 1) := by decide +kernel
theorem d_Pol_splitTop_196 : decode prog_6_method_8_code 196 = .ok (.iand, 1) := by decide +kernel
theorem d_Pol_splitTop_197 : decode prog_6_method_8_code 197 = .ok (.iastore, 1) := by decide +kernel
theorem d_Pol_splitTop_198 : decode prog_6_method_8_code 198 = .ok (.return_, 1) := by decide +kernel
abbrev wd_Pol_splitTop (cI cJ cG cZ : ClassId) (a0 a0_near a0_nodes a0_factors a0_powers a0_product : Nat) (r0_near : Nat → Nat) (v0_versionSeen : Int32) (w0_nodes : Nat → Int32) (w0_factors : Nat → Int64) (w0_near : Nat → Nat → Int32) : va_W := [(a0, .inr (3, [.ref a0_near, .ref a0_nodes, .ref a0_factors, .ref a0_powers, .ref a0_product, .int v0_versionSeen])), (a0_near, .inl (cG, 68, .inr (.inr (.inr (.inr (gO r0_near 68)))))), (a0_nodes, .inl (cI, 68, .inl w0_nodes)), (a0_factors, .inl (cJ, 68, .inr (.inl w0_factors)))] ++ rowsW r0_near cI 12 68 w0_near
abbrev we_Pol_splitTop (cI cJ cG cZ : ClassId) (a0 a0_near a0_nodes a0_factors a0_powers a0_product : Nat) (r0_near : Nat → Nat) (v0_versionSeen : Int32) (w0_nodes : Nat → Int32) (w0_factors : Nat → Int64) (w0_near : Nat → Nat → Int32) : va_W := [(a0, .inr (3, [.ref a0_near, .ref a0_nodes, .ref a0_factors, .ref a0_powers, .ref a0_product, .int v0_versionSeen])), (a0_near, .inl (cG, 68, .inr (.inr (.inr (.inr (gO r0_near 68)))))), (a0_nodes, .inl (cI, 68, .inl w0_nodes)), (a0_factors, .inl (cJ, 68, .inr (.inl w0_factors)))]
abbrev us_Pol_splitTop : List Cond := .code y_Pol_splitTop prog_6_method_8_code 7 none :: gtbl
abbrev rm_Pol_splitTop : Room := { frames := 2, cells := 0, slots := 0, locals := 45 }
def m_Pol_splitTop (F : Nat) (v0_versionSeen : Int32) (w0_nodes : Nat → Int32) (w0_factors : Nat → Int64) (w0_near : Nat → Nat → Int32) (p1 : Int32) : Option ((Nat → Int32) × (Nat → Int64) × (Nat → Nat → Int32)) :=
  gC (inb p1 68) (
  gM (m_Pol_fewestNear F v0_versionSeen w0_nodes w0_near p1) (fun q_3 =>
  gC (inb q_3 12) (
  gC (inb p1 68) (
  gM (m_Pol_farPair F v0_versionSeen w0_near p1 ((w0_near p1.toNatClampNeg q_3.toNatClampNeg) &&& (w0_nodes p1.toNatClampNeg))) (fun q_8 =>
  gM (m_CS_lowestOf F q_8) (fun q_11 =>
  gM (m_CS_lowestOf F (q_8 &&& (q_8 - 1))) (fun q_14 =>
  gC (inb p1 68) (
  gC (inb (p1 + 1) 68) (
  gC (cpyB (0 : Int32) (0 : Int32) (12 : Int32) 12 12) (
  gC (inb p1 68) (
  gC (inb (p1 + 1) 68) (
  gC (inb p1 68) (
  gC (inb (p1 + 1) 68) (
  gC (inb (p1 + 1) 68) (
  gC (inb q_11 12) (
  gC (inb q_11 12) (
  gC (inb (p1 + 1) 68) (
  gC (inb q_14 12) (
  gC (inb q_14 12) (
  gC (inb p1 68) (
  gC (inb q_11 12) (
  gC (inb q_14 12) (
  gC (inb q_11 12) (
  gL (fun (k_146 : (Int32 × (Nat → Nat → Int32)) → Option ((Nat → Int32) × (Nat → Int64) × (Nat → Nat → Int32))) (z_146 : Int32 × (Nat → Nat → Int32)) => match z_146 with
  | (x6_39, w0_near_40) =>
  if (12 : Int32) ≤ x6_39 then (
    gC (inb p1 68) (
    gC (inb p1 68) (
    some (upd (upd w0_nodes (p1 + 1).toNatClampNeg (w0_nodes p1.toNatClampNeg)) p1.toNatClampNeg (((upd w0_nodes (p1 + 1).toNatClampNeg (w0_nodes p1.toNatClampNeg)) p1.toNatClampNeg) &&& (((1 : Int32) <<< (q_14 &&& 31)) ^^^ (-1))), vp_updL w0_factors (p1 + 1).toNatClampNeg (w0_factors p1.toNatClampNeg), w0_near_40)))
  ) else (
    gC (inb q_14 12) (
    if (((w0_near_40 p1.toNatClampNeg q_14.toNatClampNeg) >>> (x6_39 &&& 31)) &&& 1) = 0 then (
      gB (x6_39 + 1) (fun x6_46 =>
      k_146 (x6_46, w0_near_40))
    ) else (
      gC (inb x6_39 12) (
      gC (inb x6_39 12) (
      gB (x6_39 + 1) (fun x6_49 =>
      k_146 (x6_49, gU w0_near_40 p1.toNatClampNeg x6_39.toNatClampNeg ((w0_near_40 p1.toNatClampNeg x6_39.toNatClampNeg) ||| ((1 : Int32) <<< (q_11 &&& 31)))))))
    ))
  )
  ) F (0, gU (gU (gU (gF w0_near ((p1 + 1).toNatClampNeg) (va_cpy (w0_near p1.toNatClampNeg) (w0_near ((p1 + 1).toNatClampNeg)) (0 : Int32).toNatClampNeg (0 : Int32).toNatClampNeg (12 : Int32).toNatClampNeg)) ((p1 + 1).toNatClampNeg) q_11.toNatClampNeg (((gF w0_near ((p1 + 1).toNatClampNeg) (va_cpy (w0_near p1.toNatClampNeg) (w0_near ((p1 + 1).toNatClampNeg)) (0 : Int32).toNatClampNeg (0 : Int32).toNatClampNeg (12 : Int32).toNatClampNeg)) ((p1 + 1).toNatClampNeg) q_11.toNatClampNeg) ||| ((1 : Int32) <<< (q_14 &&& 31)))) ((p1 + 1).toNatClampNeg) q_14.toNatClampNeg (((gU (gF w0_near ((p1 + 1).toNatClampNeg) (va_cpy (w0_near p1.toNatClampNeg) (w0_near ((p1 + 1).toNatClampNeg)) (0 : Int32).toNatClampNeg (0 : Int32).toNatClampNeg (12 : Int32).toNatClampNeg)) ((p1 + 1).toNatClampNeg) q_11.toNatClampNeg (((gF w0_near ((p1 + 1).toNatClampNeg) (va_cpy (w0_near p1.toNatClampNeg) (w0_near ((p1 + 1).toNatClampNeg)) (0 : Int32).toNatClampNeg (0 : Int32).toNatClampNeg (12 : Int32).toNatClampNeg)) ((p1 + 1).toNatClampNeg) q_11.toNatClampNeg) ||| ((1 : Int32) <<< (q_14 &&& 31)))) ((p1 + 1).toNatClampNeg) q_14.toNatClampNeg) ||| ((1 : Int32) <<< (q_11 &&& 31)))) p1.toNatClampNeg q_11.toNatClampNeg (((gU (gU (gF w0_near ((p1 + 1).toNatClampNeg) (va_cpy (w0_near p1.toNatClampNeg) (w0_near ((p1 + 1).toNatClampNeg)) (0 : Int32).toNatClampNeg (0 : Int32).toNatClampNeg (12 : Int32).toNatClampNeg)) ((p1 + 1).toNatClampNeg) q_11.toNatClampNeg (((gF w0_near ((p1 + 1).toNatClampNeg) (va_cpy (w0_near p1.toNatClampNeg) (w0_near ((p1 + 1).toNatClampNeg)) (0 : Int32).toNatClampNeg (0 : Int32).toNatClampNeg (12 : Int32).toNatClampNeg)) ((p1 + 1).toNatClampNeg) q_11.toNatClampNeg) ||| ((1 : Int32) <<< (q_14 &&& 31)))) ((p1 + 1).toNatClampNeg) q_14.toNatClampNeg (((gU (gF w0_near ((p1 + 1).toNatClampNeg) (va_cpy (w0_near p1.toNatClampNeg) (w0_near ((p1 + 1).toNatClampNeg)) (0 : Int32).toNatClampNeg (0 : Int32).toNatClampNeg (12 : Int32).toNatClampNeg)) ((p1 + 1).toNatClampNeg) q_11.toNatClampNeg (((gF w0_near ((p1 + 1).toNatClampNeg) (va_cpy (w0_near p1.toNatClampNeg) (w0_near ((p1 + 1).toNatClampNeg)) (0 : Int32).toNatClampNeg (0 : Int32).toNatClampNeg (12 : Int32).toNatClampNeg)) ((p1 + 1).toNatClampNeg) q_11.toNatClampNeg) ||| ((1 : Int32) <<< (q_14 &&& 31)))) ((p1 + 1).toNatClampNeg) q_14.toNatClampNeg) ||| ((1 : Int32) <<< (q_11 &&& 31)))) p1.toNatClampNeg q_11.toNatClampNeg) ||| ((gU (gU (gF w0_near ((p1 + 1).toNatClampNeg) (va_cpy (w0_near p1.toNatClampNeg) (w0_near ((p1 + 1).toNatClampNeg)) (0 : Int32).toNatClampNeg (0 : Int32).toNatClampNeg (12 : Int32).toNatClampNeg)) ((p1 + 1).toNatClampNeg) q_11.toNatClampNeg (((gF w0_near ((p1 + 1).toNatClampNeg) (va_cpy (w0_near p1.toNatClampNeg) (w0_near ((p1 + 1).toNatClampNeg)) (0 : Int32).toNatClampNeg (0 : Int32).toNatClampNeg (12 : Int32).toNatClampNeg)) ((p1 + 1).toNatClampNeg) q_11.toNatClampNeg) ||| ((1 : Int32) <<< (q_14 &&& 31)))) ((p1 + 1).toNatClampNeg) q_14.toNatClampNeg (((gU (gF w0_near ((p1 + 1).toNatClampNeg) (va_cpy (w0_near p1.toNatClampNeg) (w0_near ((p1 + 1).toNatClampNeg)) (0 : Int32).toNatClampNeg (0 : Int32).toNatClampNeg (12 : Int32).toNatClampNeg)) ((p1 + 1).toNatClampNeg) q_11.toNatClampNeg (((gF w0_near ((p1 + 1).toNatClampNeg) (va_cpy (w0_near p1.toNatClampNeg) (w0_near ((p1 + 1).toNatClampNeg)) (0 : Int32).toNatClampNeg (0 : Int32).toNatClampNeg (12 : Int32).toNatClampNeg)) ((p1 + 1).toNatClampNeg) q_11.toNatClampNeg) ||| ((1 : Int32) <<< (q_14 &&& 31)))) ((p1 + 1).toNatClampNeg) q_14.toNatClampNeg) ||| ((1 : Int32) <<< (q_11 &&& 31)))) p1.toNatClampNeg q_14.toNatClampNeg)))))))))))))))))))))))))))
set_option maxHeartbeats 4000000 in
set_option maxRecDepth 100000 in
theorem c_Pol_splitTop (l : Launch) (dC : Nat → ClassId) (dI : Nat → Nat → Nat) (cI cJ cG cZ : ClassId) (a0 a0_near a0_nodes a0_factors a0_powers a0_product : Nat) (r0_near : Nat → Nat) (sz : Nat) (F : Nat) (v0_versionSeen : Int32) (w0_nodes : Nat → Int32) (w0_factors : Nat → Int64) (w0_near : Nat → Nat → Int32) (p1 : Int32) (o_w0_nodes : Nat → Int32) (o_w0_factors : Nat → Int64) (o_w0_near : Nat → Nat → Int32) (hm : m_Pol_splitTop F v0_versionSeen w0_nodes w0_factors w0_near p1 = some (o_w0_nodes, o_w0_factors, o_w0_near)) : Met l y_Pol_splitTop us_Pol_splitTop rm_Pol_splitTop (PcS (dC, dI) (tyL cI cJ cG cZ) [.ref a0, .int p1] sz (wd_Pol_splitTop cI cJ cG cZ a0 a0_near a0_nodes a0_factors a0_powers a0_product r0_near v0_versionSeen w0_nodes w0_factors w0_near)) (va_Qv (fun (_ : Unit) => True) (fun _ t => PoS (dC, dI) (tyL cI cJ cG cZ) (wd_Pol_splitTop cI cJ cG cZ a0 a0_near a0_nodes a0_factors a0_powers a0_product r0_near v0_versionSeen o_w0_nodes o_w0_factors o_w0_near) (va_A (wd_Pol_splitTop cI cJ cG cZ a0 a0_near a0_nodes a0_factors a0_powers a0_product r0_near v0_versionSeen w0_nodes w0_factors w0_near) sz) t) (va_A (wd_Pol_splitTop cI cJ cG cZ a0 a0_near a0_nodes a0_factors a0_powers a0_product r0_near v0_versionSeen w0_nodes w0_factors w0_near) sz)) 0 0 (va_A (wd_Pol_splitTop cI cJ cG cZ a0 a0_near a0_nodes a0_factors a0_powers a0_product r0_near v0_versionSeen w0_nodes w0_factors w0_near) sz) := by
  refine Met.ofW (cc := prog_6_method_8_code) (maxL := 7) (ret := none) (by decide) rfl ?_
  intro p e s m args below meth c s₁ B hml hv
  obtain ⟨rfl, hsz, hP, hK, hD0, hNw⟩ := hv
  have hx := B.exec
  have hb := B.bytes
  have hr := B.returns
  have htt : ∀ w ∈ gtbl, w.before _ s = true := fun w h => atoms_spec (ws := us_Pol_splitTop) B.pre w (List.mem_cons_of_mem _ h)
  have hown : s.vm.findClass R_Pol = some m.cls := findClass_of_methodNamed B.named
  have hlocks := B.notSynchronized
  subst hsz
  have hD := hD0.self (sz := s.heap.size)
  generalize hAe : va_A (wd_Pol_splitTop cI cJ cG cZ a0 a0_near a0_nodes a0_factors a0_powers a0_product r0_near v0_versionSeen w0_nodes w0_factors w0_near) s.heap.size = A at hD ⊢
  have hA : ∀ q : Nat, s.heap.size ≤ q → A q := fun q h => by rw [← hAe]; exact Or.inr h
  clear hAe hD0
  have hS : va_S A s.heap s.heap [] := va_S.rf
  have hl := lv_entry ([.ref a0, .int p1]) (n := 7) (Nat.le_of_ble_eq_true rfl)
  rw [lg_entry_eq]
  generalize (lg_sl ([.ref a0, .int p1]) ++ List.replicate (7 - (lg_sl ([.ref a0, .int p1])).length) Slot.unset).toArray = ls at hl ⊢
  have hl : lv_has ls 7 [(0, .ref a0), (1, .int p1)] := hl
  generalize hH : s.heap = H at hP ⊢
  have hS : va_S A s.heap H [] := hH ▸ hS
  generalize hLo : ([] : List Loc) = locs at hS ⊢
  clear hH hLo
  unfold m_Pol_splitTop at hm
  refine lv_aload_n hx hb d_Pol_splitTop_0 rfl (lv_at hl 0 rfl) ?_
  refine lv_iload_n hx hb d_Pol_splitTop_1 rfl (lv_at hl 1 rfl) ?_
  refine lv_aload_n hx hb d_Pol_splitTop_2 rfl (lv_at hl 0 rfl) ?_
  refine va_get (D := (dC, dI)) (ci := 3) (v := .ref a0_near) (C := R_Pol) (T := T_Pol) (N := 6) hx hb htt hin_Pol hown hK hP 0 rfl rfl 0 (by decide) (htt _ kt_120) (fun _ h9 => h9) rfl d_Pol_splitTop_3 ?_
  refine lv_iload_n hx hb d_Pol_splitTop_6 rfl (lv_at hl 1 rfl) ?_
  obtain ⟨hi_1, hm⟩ := gC_e hm
  have hj_2 := inb_lt hi_1
  refine gx_ald hx hb hK hP 1 2 rfl rfl (inb_vp hi_1) d_Pol_splitTop_7 ?_
  refine lv_aload_n hx hb d_Pol_splitTop_8 rfl (lv_at hl 0 rfl) ?_
  refine lv_iload_n hx hb d_Pol_splitTop_9 rfl (lv_at hl 1 rfl) ?_
  obtain ⟨q_3, hc_4, hm⟩ := gM_e hm
  have hPc : va_P (dC, dI) vwCl (wd_Pol_fewestNear cI cJ cG cZ a0 a0_near a0_nodes a0_factors a0_powers a0_product r0_near v0_versionSeen w0_nodes w0_near) H := hP.part [0, 1, 2] rfl
  have hDc : va_D A (wd_Pol_fewestNear cI cJ cG cZ a0 a0_near a0_nodes a0_factors a0_powers a0_product r0_near v0_versionSeen w0_nodes w0_near) := hD.part [0, 1, 2] (by decide) rfl
  have hFc : ∀ q, va_A (wd_Pol_fewestNear cI cJ cG cZ a0 a0_near a0_nodes a0_factors a0_powers a0_product r0_near v0_versionSeen w0_nodes w0_near) H.size q → A q := va_freeP hD hS hA [0, 1, 2] rfl
  refine va_calli (va_runV (As := [.int p1]) (rest := [.ref (r0_near p1.toNatClampNeg), .int p1, .ref a0]) ⟨hx, hb, hml, hown, htt⟩ (c_Pol_fewestNear l dC dI cI cJ cG cZ a0 a0_near a0_nodes a0_factors a0_powers a0_product r0_near H.size F v0_versionSeen w0_nodes w0_near p1 q_3 hc_4) (cwV 1 htt (gdV kt_421 kt_423 kp_19 kt_4 kt_424) rfl rfl rfl (by decide +kernel) ⟨(Nat.le_of_ble_eq_true rfl), (Nat.le_of_ble_eq_true rfl)⟩) ⟨PcS_blind, va_recv hK hPc (ci := 3) (q0 := 0) rfl rfl, PcS_in hPc hK hDc hNw⟩ rfl rfl hl.1 rfl (lv_room (Nat.le_of_ble_eq_true rfl)) d_Pol_splitTop_10 ⟨Nat.zero_le _, Nat.zero_le _⟩) hS (fun q _ h => hFc q h) hFc (fun r_5 u t H1 locs ht hvm hw hB hz1 hk1 hS => ?_)
  obtain ⟨hP1, hK1, hD1⟩ := hB
  rw [ht] at hP1
  subst hw
  obtain ⟨hP, hD⟩ := va_joinP (wr := [(a0_factors, .inl (cJ, 68, .inr (.inl w0_factors)))]) (rx := (we_Pol_fewestNear cI cJ cG cZ a0 a0_near a0_nodes a0_factors a0_powers a0_product r0_near v0_versionSeen w0_nodes w0_near)) hP hD [0, 1, 2] [3] rfl rfl (by decide) (by decide) hk1 hFc hP1 hD1
  have hP : va_P (dC, dI) vwCl (wd_Pol_splitTop cI cJ cG cZ a0 a0_near a0_nodes a0_factors a0_powers a0_product r0_near v0_versionSeen w0_nodes w0_factors w0_near) H1 := hP.part [1, 2, 3, 0] rfl
  have hD : va_D A (wd_Pol_splitTop cI cJ cG cZ a0 a0_near a0_nodes a0_factors a0_powers a0_product r0_near v0_versionSeen w0_nodes w0_factors w0_near) := hD.part [1, 2, 3, 0] (by decide) rfl
  clear hP1 hK1 hD1 hk1 hPc hDc hFc ht hvm hz1
  generalize H1 = H at hP hS ⊢
  obtain ⟨hi_6, hm⟩ := gC_e hm
  refine va_iald hx hb hK hP (4 + p1.toNatClampNeg) 0 (rows_get rfl hj_2) rfl (inb_vp hi_6) d_Pol_splitTop_13 ?_
  refine lv_aload_n hx hb d_Pol_splitTop_14 rfl (lv_at hl 0 rfl) ?_
  refine va_get (D := (dC, dI)) (ci := 3) (v := .ref a0_nodes) (C := R_Pol) (T := T_Pol) (N := 6) hx hb htt hin_Pol hown hK hP 0 rfl rfl 1 (by decide) (htt _ kt_121) (fun _ h9 => h9) rfl d_Pol_splitTop_15 ?_
  refine lv_iload_n hx hb d_Pol_splitTop_18 rfl (lv_at hl 1 rfl) ?_
  obtain ⟨hi_7, hm⟩ := gC_e hm
  refine va_iald hx hb hK hP 2 0 rfl rfl (inb_vp hi_7) d_Pol_splitTop_19 ?_
  refine lv_iand hx hb d_Pol_splitTop_20 ?_
  obtain ⟨q_8, hc_9, hm⟩ := gM_e hm
  have hPc : va_P (dC, dI) vwCl (wd_Pol_farPair cI cJ cG cZ a0 a0_near a0_nodes a0_factors a0_powers a0_product r0_near v0_versionSeen w0_near) H := hP.part [0, 1] rfl
  have hDc : va_D A (wd_Pol_farPair cI cJ cG cZ a0 a0_near a0_nodes a0_factors a0_powers a0_product r0_near v0_versionSeen w0_near) := hD.part [0, 1] (by decide) rfl
  have hFc : ∀ q, va_A (wd_Pol_farPair cI cJ cG cZ a0 a0_near a0_nodes a0_factors a0_powers a0_product r0_near v0_versionSeen w0_near) H.size q → A q := va_freeP hD hS hA [0, 1] rfl
  refine va_calli (va_runV (As := [.int p1, .int ((w0_near p1.toNatClampNeg q_3.toNatClampNeg) &&& (w0_nodes p1.toNatClampNeg))]) (rest := []) ⟨hx, hb, hml, hown, htt⟩ (c_Pol_farPair l dC dI cI cJ cG cZ a0 a0_near a0_nodes a0_factors a0_powers a0_product r0_near H.size F v0_versionSeen w0_near p1 ((w0_near p1.toNatClampNeg q_3.toNatClampNeg) &&& (w0_nodes p1.toNatClampNeg)) q_8 hc_9) (cwV 2 htt (gdV kt_408 kt_410 kp_16 kt_4 kt_411) rfl rfl rfl (by decide +kernel) ⟨(Nat.le_of_ble_eq_true rfl), (Nat.le_of_ble_eq_true rfl)⟩) ⟨PcS_blind, va_recv hK hPc (ci := 3) (q0 := 0) rfl rfl, PcS_in hPc hK hDc hNw⟩ rfl rfl hl.1 rfl (lv_room (Nat.le_of_ble_eq_true rfl)) d_Pol_splitTop_21 ⟨Nat.zero_le _, Nat.zero_le _⟩) hS (fun q _ h => hFc q h) hFc (fun r_10 u t H1 locs ht hvm hw hB hz1 hk1 hS => ?_)
  obtain ⟨hP1, hK1, hD1⟩ := hB
  rw [ht] at hP1
  subst hw
  obtain ⟨hP, hD⟩ := va_joinP (wr := [(a0_nodes, .inl (cI, 68, .inl w0_nodes)), (a0_factors, .inl (cJ, 68, .inr (.inl w0_factors)))]) (rx := (we_Pol_farPair cI cJ cG cZ a0 a0_near a0_nodes a0_factors a0_powers a0_product r0_near v0_versionSeen w0_near)) hP hD [0, 1] [2, 3] rfl rfl (by decide) (by decide) hk1 hFc hP1 hD1
  have hP : va_P (dC, dI) vwCl (wd_Pol_splitTop cI cJ cG cZ a0 a0_near a0_nodes a0_factors a0_powers a0_product r0_near v0_versionSeen w0_nodes w0_factors w0_near) H1 := hP.part [2, 3, 0, 1] rfl
  have hD : va_D A (wd_Pol_splitTop cI cJ cG cZ a0 a0_near a0_nodes a0_factors a0_powers a0_product r0_near v0_versionSeen w0_nodes w0_factors w0_near) := hD.part [2, 3, 0, 1] (by decide) rfl
  clear hP1 hK1 hD1 hk1 hPc hDc hFc ht hvm hz1
  generalize H1 = H at hP hS ⊢
  refine lv_istore_n (lv' := [(2, .int q_8), (0, .ref a0), (1, .int p1)]) hx hb d_Pol_splitTop_24 rfl hl (by decide) rfl (fun ls hl => ?_)
  refine lv_iload_n hx hb d_Pol_splitTop_25 rfl (lv_at hl 0 rfl) ?_
  obtain ⟨q_11, hc_12, hm⟩ := gM_e hm
  have hPc : va_P (dC, dI) vwCl (wd_CS_lowestOf cI cJ cG cZ) H := hP.sub [] rfl
  have hDc : va_D A (wd_CS_lowestOf cI cJ cG cZ) := hD.sub [] (by decide) rfl
  have hFc : ∀ q, va_A (wd_CS_lowestOf cI cJ cG cZ) H.size q → A q := va_free hD hS hA [] rfl
  refine va_calli (va_runSN (host := R_CS) (As := [.int q_8]) (rest := []) ⟨hx, hb, hml, hown, htt⟩ (c_CS_lowestOf l dC dI cI cJ cG cZ H.size F q_8 q_11 hc_12) ⟨va_cnB 1 htt (gdN kt_427) rfl rfl rfl (hNw _ kt_425) (htt _ kt_1) (by decide +kernel) ⟨(Nat.le_of_ble_eq_true rfl), (Nat.le_of_ble_eq_true rfl)⟩, htt _ kt_426, trivial⟩ ⟨PcS_blind, PcS_in hPc hK hDc hNw⟩ rfl rfl hl.1 rfl (lv_room (Nat.le_of_ble_eq_true rfl)) d_Pol_splitTop_26 ⟨Nat.zero_le _, Nat.zero_le _⟩) hS (fun q _ h => hFc q h) hFc (fun r_13 u t H1 locs ht hvm hw hB hz1 hk1 hS => ?_)
  obtain ⟨hP1, hK1, hD1⟩ := hB
  rw [ht] at hP1
  subst hw
  obtain ⟨hP, hD⟩ := va_joinQ (wr := [(a0, .inr (3, [.ref a0_near, .ref a0_nodes, .ref a0_factors, .ref a0_powers, .ref a0_product, .int v0_versionSeen])), (a0_near, .inl (cG, 68, .inr (.inr (.inr (.inr (gO r0_near 68)))))), (a0_nodes, .inl (cI, 68, .inl w0_nodes)), (a0_factors, .inl (cJ, 68, .inr (.inl w0_factors)))]) (w1 := (wd_CS_lowestOf cI cJ cG cZ)) hP hD [] [0, 1, 2, 3] rfl rfl (by decide) (by decide) hk1 hFc hP1 hD1
  have hP : va_P (dC, dI) vwCl (wd_Pol_splitTop cI cJ cG cZ a0 a0_near a0_nodes a0_factors a0_powers a0_product r0_near v0_versionSeen w0_nodes w0_factors w0_near) H1 := hP.part [0, 1, 2, 3] rfl
  have hD : va_D A (wd_Pol_splitTop cI cJ cG cZ a0 a0_near a0_nodes a0_factors a0_powers a0_product r0_near v0_versionSeen w0_nodes w0_factors w0_near) := hD.part [0, 1, 2, 3] (by decide) rfl
  clear hP1 hK1 hD1 hk1 hPc hDc hFc ht hvm hz1
  generalize H1 = H at hP hS ⊢
  refine lv_istore_n (lv' := [(3, .int q_11), (2, .int q_8), (0, .ref a0), (1, .int p1)]) hx hb d_Pol_splitTop_29 rfl hl (by decide) rfl (fun ls hl => ?_)
  refine lv_iload_n hx hb d_Pol_splitTop_30 rfl (lv_at hl 1 rfl) ?_
  refine lv_iload_n hx hb d_Pol_splitTop_31 rfl (lv_at hl 1 rfl) ?_
  refine lv_iconst (v := 1) hx hb d_Pol_splitTop_32 (by decide) ?_
  refine lv_isub hx hb d_Pol_splitTop_33 ?_
  refine lv_iand hx hb d_Pol_splitTop_34 ?_
  obtain ⟨q_14, hc_15, hm⟩ := gM_e hm
  have hPc : va_P (dC, dI) vwCl (wd_CS_lowestOf cI cJ cG cZ) H := hP.sub [] rfl
  have hDc : va_D A (wd_CS_lowestOf cI cJ cG cZ) := hD.sub [] (by decide) rfl
  have hFc : ∀ q, va_A (wd_CS_lowestOf cI cJ cG cZ) H.size q → A q := va_free hD hS hA [] rfl
  refine va_calli (va_runSN (host := R_CS) (As := [.int (q_8 &&& (q_8 - 1))]) (rest := []) ⟨hx, hb, hml, hown, htt⟩ (c_CS_lowestOf l dC dI cI cJ cG cZ H.size F (q_8 &&& (q_8 - 1)) q_14 hc_15) ⟨va_cnB 1 htt (gdN kt_427) rfl rfl rfl (hNw _ kt_425) (htt _ kt_1) (by decide +kernel) ⟨(Nat.le_of_ble_eq_true rfl), (Nat.le_of_ble_eq_true rfl)⟩, htt _ kt_426, trivial⟩ ⟨PcS_blind, PcS_in hPc hK hDc hNw⟩ rfl rfl hl.1 rfl (lv_room (Nat.le_of_ble_eq_true rfl)) d_Pol_splitTop_35 ⟨Nat.zero_le _, Nat.zero_le _⟩) hS (fun q _ h => hFc q h) hFc (fun r_16 u t H1 locs ht hvm hw hB hz1 hk1 hS => ?_)
  obtain ⟨hP1, hK1, hD1⟩ := hB
  rw [ht] at hP1
  subst hw
  obtain ⟨hP, hD⟩ := va_joinQ (wr := [(a0, .inr (3, [.ref a0_near, .ref a0_nodes, .ref a0_factors, .ref a0_powers, .ref a0_product, .int v0_versionSeen])), (a0_near, .inl (cG, 68, .inr (.inr (.inr (.inr (gO r0_near 68)))))), (a0_nodes, .inl (cI, 68, .inl w0_nodes)), (a0_factors, .inl (cJ, 68, .inr (.inl w0_factors)))]) (w1 := (wd_CS_lowestOf cI cJ cG cZ)) hP hD [] [0, 1, 2, 3] rfl rfl (by decide) (by decide) hk1 hFc hP1 hD1
  have hP : va_P (dC, dI) vwCl (wd_Pol_splitTop cI cJ cG cZ a0 a0_near a0_nodes a0_factors a0_powers a0_product r0_near v0_versionSeen w0_nodes w0_factors w0_near) H1 := hP.part [0, 1, 2, 3] rfl
  have hD : va_D A (wd_Pol_splitTop cI cJ cG cZ a0 a0_near a0_nodes a0_factors a0_powers a0_product r0_near v0_versionSeen w0_nodes w0_factors w0_near) := hD.part [0, 1, 2, 3] (by decide) rfl
  clear hP1 hK1 hD1 hk1 hPc hDc hFc ht hvm hz1
  generalize H1 = H at hP hS ⊢
  refine lv_istore (lv' := [(4, .int q_14), (3, .int q_11), (2, .int q_8), (0, .ref a0), (1, .int p1)]) hx hb d_Pol_splitTop_38 hl (by decide) rfl (fun ls hl => ?_)
  refine lv_aload_n hx hb d_Pol_splitTop_40 rfl (lv_at hl 3 rfl) ?_
  refine va_get (D := (dC, dI)) (ci := 3) (v := .ref a0_near) (C := R_Pol) (T := T_Pol) (N := 6) hx hb htt hin_Pol hown hK hP 0 rfl rfl 0 (by decide) (htt _ kt_120) (fun _ h9 => h9) rfl d_Pol_splitTop_41 ?_
  refine lv_iload_n hx hb d_Pol_splitTop_44 rfl (lv_at hl 4 rfl) ?_
  obtain ⟨hi_17, hm⟩ := gC_e hm
  have hj_18 := inb_lt hi_17
  refine gx_ald hx hb hK hP 1 2 rfl rfl (inb_vp hi_17) d_Pol_splitTop_45 ?_
  refine lv_iconst (v := 0) hx hb d_Pol_splitTop_46 (by decide) ?_
  refine lv_aload_n hx hb d_Pol_splitTop_47 rfl (lv_at hl 3 rfl) ?_
  refine va_get (D := (dC, dI)) (ci := 3) (v := .ref a0_near) (C := R_Pol) (T := T_Pol) (N := 6) hx hb htt hin_Pol hown hK hP 0 rfl rfl 0 (by decide) (htt _ kt_120) (fun _ h9 => h9) rfl d_Pol_splitTop_48 ?_
  refine lv_iload_n hx hb d_Pol_splitTop_51 rfl (lv_at hl 4 rfl) ?_
  refine lv_iconst (v := 1) hx hb d_Pol_splitTop_52 (by decide) ?_
  refine lv_iadd hx hb d_Pol_splitTop_53 ?_
  obtain ⟨hi_19, hm⟩ := gC_e hm
  have hj_20 := inb_lt hi_19
  refine gx_ald hx hb hK hP 1 2 rfl rfl (inb_vp hi_19) d_Pol_splitTop_54 ?_
  refine lv_iconst (v := 0) hx hb d_Pol_splitTop_55 (by decide) ?_
  refine lv_bipush (v := 12) hx hb d_Pol_splitTop_56 (by decide) ?_
  obtain ⟨hy_21, hm⟩ := gC_e hm
  refine gx_copy hx hb hml hown htt kt_398 hK hP hD hS (4 + p1.toNatClampNeg) (4 + (p1 + 1).toNatClampNeg) (rows_get rfl hj_18) (rows_get rfl hj_20) hy_21 hl.1 (lv_room (Nat.le_of_ble_eq_true rfl)) (Nat.le_of_ble_eq_true rfl) (Nat.le_of_ble_eq_true rfl) d_Pol_splitTop_58 (fun H locs hP hD hS => ?_)
  have hP := rows_setP rfl hP
  have hD := rows_setD rfl hD
  have hP : va_P (dC, dI) vwCl (wd_Pol_splitTop cI cJ cG cZ a0 a0_near a0_nodes a0_factors a0_powers a0_product r0_near v0_versionSeen w0_nodes w0_factors (gF w0_near ((p1 + 1).toNatClampNeg) (va_cpy (w0_near p1.toNatClampNeg) (w0_near ((p1 + 1).toNatClampNeg)) (0 : Int32).toNatClampNeg (0 : Int32).toNatClampNeg (12 : Int32).toNatClampNeg))) H := hP
  have hD : va_D A (wd_Pol_splitTop cI cJ cG cZ a0 a0_near a0_nodes a0_factors a0_powers a0_product r0_near v0_versionSeen w0_nodes w0_factors (gF w0_near ((p1 + 1).toNatClampNeg) (va_cpy (w0_near p1.toNatClampNeg) (w0_near ((p1 + 1).toNatClampNeg)) (0 : Int32).toNatClampNeg (0 : Int32).toNatClampNeg (12 : Int32).toNatClampNeg))) := hD
  refine lv_aload_n hx hb d_Pol_splitTop_61 rfl (lv_at hl 3 rfl) ?_
  refine va_get (D := (dC, dI)) (ci := 3) (v := .ref a0_nodes) (C := R_Pol) (T := T_Pol) (N := 6) hx hb htt hin_Pol hown hK hP 0 rfl rfl 1 (by decide) (htt _ kt_121) (fun _ h9 => h9) rfl d_Pol_splitTop_62 ?_
  refine lv_iload_n hx hb d_Pol_splitTop_65 rfl (lv_at hl 4 rfl) ?_
  refine lv_iconst (v := 1) hx hb d_Pol_splitTop_66 (by decide) ?_
  refine lv_iadd hx hb d_Pol_splitTop_67 ?_
  refine lv_aload_n hx hb d_Pol_splitTop_68 rfl (lv_at hl 3 rfl) ?_
  refine va_get (D := (dC, dI)) (ci := 3) (v := .ref a0_nodes) (C := R_Pol) (T := T_Pol) (N := 6) hx hb htt hin_Pol hown hK hP 0 rfl rfl 1 (by decide) (htt _ kt_121) (fun _ h9 => h9) rfl d_Pol_splitTop_69 ?_
  refine lv_iload_n hx hb d_Pol_splitTop_72 rfl (lv_at hl 4 rfl) ?_
  obtain ⟨hi_22, hm⟩ := gC_e hm
  refine va_iald hx hb hK hP 2 0 rfl rfl (inb_vp hi_22) d_Pol_splitTop_73 ?_
  obtain ⟨hi_23, hm⟩ := gC_e hm
  refine va_iast hx hb hK hP hD hS 2 0 rfl rfl (inb_vp hi_23) d_Pol_splitTop_74 (fun H locs hP hD hS => ?_)
  have hP : va_P (dC, dI) vwCl (wd_Pol_splitTop cI cJ cG cZ a0 a0_near a0_nodes a0_factors a0_powers a0_product r0_near v0_versionSeen (upd w0_nodes (p1 + 1).toNatClampNeg (w0_nodes p1.toNatClampNeg)) w0_factors (gF w0_near ((p1 + 1).toNatClampNeg) (va_cpy (w0_near p1.toNatClampNeg) (w0_near ((p1 + 1).toNatClampNeg)) (0 : Int32).toNatClampNeg (0 : Int32).toNatClampNeg (12 : Int32).toNatClampNeg))) H := hP
  have hD : va_D A (wd_Pol_splitTop cI cJ cG cZ a0 a0_near a0_nodes a0_factors a0_powers a0_product r0_near v0_versionSeen (upd w0_nodes (p1 + 1).toNatClampNeg (w0_nodes p1.toNatClampNeg)) w0_factors (gF w0_near ((p1 + 1).toNatClampNeg) (va_cpy (w0_near p1.toNatClampNeg) (w0_near ((p1 + 1).toNatClampNeg)) (0 : Int32).toNatClampNeg (0 : Int32).toNatClampNeg (12 : Int32).toNatClampNeg))) := hD
  refine lv_aload_n hx hb d_Pol_splitTop_75 rfl (lv_at hl 3 rfl) ?_
  refine va_get (D := (dC, dI)) (ci := 3) (v := .ref a0_factors) (C := R_Pol) (T := T_Pol) (N := 6) hx hb htt hin_Pol hown hK hP 0 rfl rfl 2 (by decide) (htt _ kt_122) (fun _ h9 => h9) rfl d_Pol_splitTop_76 ?_
  refine lv_iload_n hx hb d_Pol_splitTop_79 rfl (lv_at hl 4 rfl) ?_
  refine lv_iconst (v := 1) hx hb d_Pol_splitTop_80 (by decide) ?_
  refine lv_iadd hx hb d_Pol_splitTop_81 ?_
  refine lv_aload_n hx hb d_Pol_splitTop_82 rfl (lv_at hl 3 rfl) ?_
  refine va_get (D := (dC, dI)) (ci := 3) (v := .ref a0_factors) (C := R_Pol) (T := T_Pol) (N := 6) hx hb htt hin_Pol hown hK hP 0 rfl rfl 2 (by decide) (htt _ kt_122) (fun _ h9 => h9) rfl d_Pol_splitTop_83 ?_
  refine lv_iload_n hx hb d_Pol_splitTop_86 rfl (lv_at hl 4 rfl) ?_
  obtain ⟨hi_24, hm⟩ := gC_e hm
  refine va_lald hx hb hK hP 3 1 rfl rfl (inb_vp hi_24) d_Pol_splitTop_87 ?_
  obtain ⟨hi_25, hm⟩ := gC_e hm
  refine va_last hx hb hK hP hD hS 3 1 rfl rfl (inb_vp hi_25) d_Pol_splitTop_88 (fun H locs hP hD hS => ?_)
  have hP : va_P (dC, dI) vwCl (wd_Pol_splitTop cI cJ cG cZ a0 a0_near a0_nodes a0_factors a0_powers a0_product r0_near v0_versionSeen (upd w0_nodes (p1 + 1).toNatClampNeg (w0_nodes p1.toNatClampNeg)) (vp_updL w0_factors (p1 + 1).toNatClampNeg (w0_factors p1.toNatClampNeg)) (gF w0_near ((p1 + 1).toNatClampNeg) (va_cpy (w0_near p1.toNatClampNeg) (w0_near ((p1 + 1).toNatClampNeg)) (0 : Int32).toNatClampNeg (0 : Int32).toNatClampNeg (12 : Int32).toNatClampNeg))) H := hP
  have hD : va_D A (wd_Pol_splitTop cI cJ cG cZ a0 a0_near a0_nodes a0_factors a0_powers a0_product r0_near v0_versionSeen (upd w0_nodes (p1 + 1).toNatClampNeg (w0_nodes p1.toNatClampNeg)) (vp_updL w0_factors (p1 + 1).toNatClampNeg (w0_factors p1.toNatClampNeg)) (gF w0_near ((p1 + 1).toNatClampNeg) (va_cpy (w0_near p1.toNatClampNeg) (w0_near ((p1 + 1).toNatClampNeg)) (0 : Int32).toNatClampNeg (0 : Int32).toNatClampNeg (12 : Int32).toNatClampNeg))) := hD
  refine lv_aload_n hx hb d_Pol_splitTop_89 rfl (lv_at hl 3 rfl) ?_
  refine va_get (D := (dC, dI)) (ci := 3) (v := .ref a0_near) (C := R_Pol) (T := T_Pol) (N := 6) hx hb htt hin_Pol hown hK hP 0 rfl rfl 0 (by decide) (htt _ kt_120) (fun _ h9 => h9) rfl d_Pol_splitTop_90 ?_
  refine lv_iload_n hx hb d_Pol_splitTop_93 rfl (lv_at hl 4 rfl) ?_
  refine lv_iconst (v := 1) hx hb d_Pol_splitTop_94 (by decide) ?_
  refine lv_iadd hx hb d_Pol_splitTop_95 ?_
  obtain ⟨hi_26, hm⟩ := gC_e hm
  have hj_27 := inb_lt hi_26
  refine gx_ald hx hb hK hP 1 2 rfl rfl (inb_vp hi_26) d_Pol_splitTop_96 ?_
  refine lv_iload_n hx hb d_Pol_splitTop_97 rfl (lv_at hl 1 rfl) ?_
  refine lv_dup2_11 hx hb d_Pol_splitTop_98 rfl rfl ?_
  obtain ⟨hi_28, hm⟩ := gC_e hm
  refine va_iald hx hb hK hP (4 + (p1 + 1).toNatClampNeg) 0 (rows_get rfl hj_27) rfl (inb_vp hi_28) d_Pol_splitTop_99 ?_
  refine lv_iconst (v := 1) hx hb d_Pol_splitTop_100 (by decide) ?_
  refine lv_iload hx hb d_Pol_splitTop_101 (lv_at hl 0 rfl) ?_
  refine lv_ishl hx hb d_Pol_splitTop_103 ?_
  refine lv_ior hx hb d_Pol_splitTop_104 ?_
  obtain ⟨hi_29, hm⟩ := gC_e hm
  refine va_iast hx hb hK hP hD hS (4 + (p1 + 1).toNatClampNeg) 0 (rows_get rfl hj_27) rfl (inb_vp hi_29) d_Pol_splitTop_105 (fun H locs hP hD hS => ?_)
  have hP := rows_setP rfl hP
  have hD := rows_setD rfl hD
  have hP : va_P (dC, dI) vwCl (wd_Pol_splitTop cI cJ cG cZ a0 a0_near a0_nodes a0_factors a0_powers a0_product r0_near v0_versionSeen (upd w0_nodes (p1 + 1).toNatClampNeg (w0_nodes p1.toNatClampNeg)) (vp_updL w0_factors (p1 + 1).toNatClampNeg (w0_factors p1.toNatClampNeg)) (gU (gF w0_near ((p1 + 1).toNatClampNeg) (va_cpy (w0_near p1.toNatClampNeg) (w0_near ((p1 + 1).toNatClampNeg)) (0 : Int32).toNatClampNeg (0 : Int32).toNatClampNeg (12 : Int32).toNatClampNeg)) ((p1 + 1).toNatClampNeg) q_11.toNatClampNeg (((gF w0_near ((p1 + 1).toNatClampNeg) (va_cpy (w0_near p1.toNatClampNeg) (w0_near ((p1 + 1).toNatClampNeg)) (0 : Int32).toNatClampNeg (0 : Int32).toNatClampNeg (12 : Int32).toNatClampNeg)) ((p1 + 1).toNatClampNeg) q_11.toNatClampNeg) ||| ((1 : Int32) <<< (q_14 &&& 31))))) H := hP
  have hD : va_D A (wd_Pol_splitTop cI cJ cG cZ a0 a0_near a0_nodes a0_factors a0_powers a0_product r0_near v0_versionSeen (upd w0_nodes (p1 + 1).toNatClampNeg (w0_nodes p1.toNatClampNeg)) (vp_updL w0_factors (p1 + 1).toNatClampNeg (w0_factors p1.toNatClampNeg)) (gU (gF w0_near ((p1 + 1).toNatClampNeg) (va_cpy (w0_near p1.toNatClampNeg) (w0_near ((p1 + 1).toNatClampNeg)) (0 : Int32).toNatClampNeg (0 : Int32).toNatClampNeg (12 : Int32).toNatClampNeg)) ((p1 + 1).toNatClampNeg) q_11.toNatClampNeg (((gF w0_near ((p1 + 1).toNatClampNeg) (va_cpy (w0_near p1.toNatClampNeg) (w0_near ((p1 + 1).toNatClampNeg)) (0 : Int32).toNatClampNeg (0 : Int32).toNatClampNeg (12 : Int32).toNatClampNeg)) ((p1 + 1).toNatClampNeg) q_11.toNatClampNeg) ||| ((1 : Int32) <<< (q_14 &&& 31))))) := hD
  refine lv_aload_n hx hb d_Pol_splitTop_106 rfl (lv_at hl 3 rfl) ?_
  refine va_get (D := (dC, dI)) (ci := 3) (v := .ref a0_near) (C := R_Pol) (T := T_Pol) (N := 6) hx hb htt hin_Pol hown hK hP 0 rfl rfl 0 (by decide) (htt _ kt_120) (fun _ h9 => h9) rfl d_Pol_splitTop_107 ?_
  refine lv_iload_n hx hb d_Pol_splitTop_110 rfl (lv_at hl 4 rfl) ?_
  refine lv_iconst (v := 1) hx hb d_Pol_splitTop_111 (by decide) ?_
  refine lv_iadd hx hb d_Pol_splitTop_112 ?_
  obtain ⟨hi_30, hm⟩ := gC_e hm
  have hj_31 := inb_lt hi_30
  refine gx_ald hx hb hK hP 1 2 rfl rfl (inb_vp hi_30) d_Pol_splitTop_113 ?_
  refine lv_iload hx hb d_Pol_splitTop_114 (lv_at hl 0 rfl) ?_
  refine lv_dup2_11 hx hb d_Pol_splitTop_116 rfl rfl ?_
  obtain ⟨hi_32, hm⟩ := gC_e hm
  refine va_iald hx hb hK hP (4 + (p1 + 1).toNatClampNeg) 0 (rows_get rfl hj_31) rfl (inb_vp hi_32) d_Pol_splitTop_117 ?_
  refine lv_iconst (v := 1) hx hb d_Pol_splitTop_118 (by decide) ?_
  refine lv_iload_n hx hb d_Pol_splitTop_119 rfl (lv_at hl 1 rfl) ?_
  refine lv_ishl hx hb d_Pol_splitTop_120 ?_
  refine lv_ior hx hb d_Pol_splitTop_121 ?_
  obtain ⟨hi_33, hm⟩ := gC_e hm
  refine va_iast hx hb hK hP hD hS (4 + (p1 + 1).toNatClampNeg) 0 (rows_get rfl hj_31) rfl (inb_vp hi_33) d_Pol_splitTop_122 (fun H locs hP hD hS => ?_)
  have hP := rows_setP rfl hP
  have hD := rows_setD rfl hD
  have hP : va_P (dC, dI) vwCl (wd_Pol_splitTop cI cJ cG cZ a0 a0_near a0_nodes a0_factors a0_powers a0_product r0_near v0_versionSeen (upd w0_nodes (p1 + 1).toNatClampNeg (w0_nodes p1.toNatClampNeg)) (vp_updL w0_factors (p1 + 1).toNatClampNeg (w0_factors p1.toNatClampNeg)) (gU (gU (gF w0_near ((p1 + 1).toNatClampNeg) (va_cpy (w0_near p1.toNatClampNeg) (w0_near ((p1 + 1).toNatClampNeg)) (0 : Int32).toNatClampNeg (0 : Int32).toNatClampNeg (12 : Int32).toNatClampNeg)) ((p1 + 1).toNatClampNeg) q_11.toNatClampNeg (((gF w0_near ((p1 + 1).toNatClampNeg) (va_cpy (w0_near p1.toNatClampNeg) (w0_near ((p1 + 1).toNatClampNeg)) (0 : Int32).toNatClampNeg (0 : Int32).toNatClampNeg (12 : Int32).toNatClampNeg)) ((p1 + 1).toNatClampNeg) q_11.toNatClampNeg) ||| ((1 : Int32) <<< (q_14 &&& 31)))) ((p1 + 1).toNatClampNeg) q_14.toNatClampNeg (((gU (gF w0_near ((p1 + 1).toNatClampNeg) (va_cpy (w0_near p1.toNatClampNeg) (w0_near ((p1 + 1).toNatClampNeg)) (0 : Int32).toNatClampNeg (0 : Int32).toNatClampNeg (12 : Int32).toNatClampNeg)) ((p1 + 1).toNatClampNeg) q_11.toNatClampNeg (((gF w0_near ((p1 + 1).toNatClampNeg) (va_cpy (w0_near p1.toNatClampNeg) (w0_near ((p1 + 1).toNatClampNeg)) (0 : Int32).toNatClampNeg (0 : Int32).toNatClampNeg (12 : Int32).toNatClampNeg)) ((p1 + 1).toNatClampNeg) q_11.toNatClampNeg) ||| ((1 : Int32) <<< (q_14 &&& 31)))) ((p1 + 1).toNatClampNeg) q_14.toNatClampNeg) ||| ((1 : Int32) <<< (q_11 &&& 31))))) H := hP
  have hD : va_D A (wd_Pol_splitTop cI cJ cG cZ a0 a0_near a0_nodes a0_factors a0_powers a0_product r0_near v0_versionSeen (upd w0_nodes (p1 + 1).toNatClampNeg (w0_nodes p1.toNatClampNeg)) (vp_updL w0_factors (p1 + 1).toNatClampNeg (w0_factors p1.toNatClampNeg)) (gU (gU (gF w0_near ((p1 + 1).toNatClampNeg) (va_cpy (w0_near p1.toNatClampNeg) (w0_near ((p1 + 1).toNatClampNeg)) (0 : Int32).toNatClampNeg (0 : Int32).toNatClampNeg (12 : Int32).toNatClampNeg)) ((p1 + 1).toNatClampNeg) q_11.toNatClampNeg (((gF w0_near ((p1 + 1).toNatClampNeg) (va_cpy (w0_near p1.toNatClampNeg) (w0_near ((p1 + 1).toNatClampNeg)) (0 : Int32).toNatClampNeg (0 : Int32).toNatClampNeg (12 : Int32).toNatClampNeg)) ((p1 + 1).toNatClampNeg) q_11.toNatClampNeg) ||| ((1 : Int32) <<< (q_14 &&& 31)))) ((p1 + 1).toNatClampNeg) q_14.toNatClampNeg (((gU (gF w0_near ((p1 + 1).toNatClampNeg) (va_cpy (w0_near p1.toNatClampNeg) (w0_near ((p1 + 1).toNatClampNeg)) (0 : Int32).toNatClampNeg (0 : Int32).toNatClampNeg (12 : Int32).toNatClampNeg)) ((p1 + 1).toNatClampNeg) q_11.toNatClampNeg (((gF w0_near ((p1 + 1).toNatClampNeg) (va_cpy (w0_near p1.toNatClampNeg) (w0_near ((p1 + 1).toNatClampNeg)) (0 : Int32).toNatClampNeg (0 : Int32).toNatClampNeg (12 : Int32).toNatClampNeg)) ((p1 + 1).toNatClampNeg) q_11.toNatClampNeg) ||| ((1 : Int32) <<< (q_14 &&& 31)))) ((p1 + 1).toNatClampNeg) q_14.toNatClampNeg) ||| ((1 : Int32) <<< (q_11 &&& 31))))) := hD
  refine lv_aload_n hx hb d_Pol_splitTop_123 rfl (lv_at hl 3 rfl) ?_
  refine va_get (D := (dC, dI)) (ci := 3) (v := .ref a0_near) (C := R_Pol) (T := T_Pol) (N := 6) hx hb htt hin_Pol hown hK hP 0 rfl rfl 0 (by decide) (htt _ kt_120) (fun _ h9 => h9) rfl d_Pol_splitTop_124 ?_
  refine lv_iload_n hx hb d_Pol_splitTop_127 rfl (lv_at hl 4 rfl) ?_
  obtain ⟨hi_34, hm⟩ := gC_e hm
  have hj_35 := inb_lt hi_34
  refine gx_ald hx hb hK hP 1 2 rfl rfl (inb_vp hi_34) d_Pol_splitTop_128 ?_
  refine lv_astore (lv' := [(5, .ref (r0_near p1.toNatClampNeg)), (4, .int q_14), (3, .int q_11), (2, .int q_8), (0, .ref a0), (1, .int p1)]) hx hb d_Pol_splitTop_129 hl (by decide) rfl (fun ls hl => ?_)
  refine lv_aload hx hb d_Pol_splitTop_131 (lv_at hl 0 rfl) ?_
  refine lv_iload_n hx hb d_Pol_splitTop_133 rfl (lv_at hl 2 rfl) ?_
  refine lv_dup2_11 hx hb d_Pol_splitTop_134 rfl rfl ?_
  obtain ⟨hi_36, hm⟩ := gC_e hm
  refine va_iald hx hb hK hP (4 + p1.toNatClampNeg) 0 (rows_get rfl hj_35) rfl (inb_vp hi_36) d_Pol_splitTop_135 ?_
  refine lv_aload hx hb d_Pol_splitTop_136 (lv_at hl 0 rfl) ?_
  refine lv_iload hx hb d_Pol_splitTop_138 (lv_at hl 1 rfl) ?_
  obtain ⟨hi_37, hm⟩ := gC_e hm
  refine va_iald hx hb hK hP (4 + p1.toNatClampNeg) 0 (rows_get rfl hj_35) rfl (inb_vp hi_37) d_Pol_splitTop_140 ?_
  refine lv_ior hx hb d_Pol_splitTop_141 ?_
  obtain ⟨hi_38, hm⟩ := gC_e hm
  refine va_iast hx hb hK hP hD hS (4 + p1.toNatClampNeg) 0 (rows_get rfl hj_35) rfl (inb_vp hi_38) d_Pol_splitTop_142 (fun H locs hP hD hS => ?_)
  have hP := rows_setP rfl hP
  have hD := rows_setD rfl hD
  have hP : va_P (dC, dI) vwCl (wd_Pol_splitTop cI cJ cG cZ a0 a0_near a0_nodes a0_factors a0_powers a0_product r0_near v0_versionSeen (upd w0_nodes (p1 + 1).toNatClampNeg (w0_nodes p1.toNatClampNeg)) (vp_updL w0_factors (p1 + 1).toNatClampNeg (w0_factors p1.toNatClampNeg)) (gU (gU (gU (gF w0_near ((p1 + 1).toNatClampNeg) (va_cpy (w0_near p1.toNatClampNeg) (w0_near ((p1 + 1).toNatClampNeg)) (0 : Int32).toNatClampNeg (0 : Int32).toNatClampNeg (12 : Int32).toNatClampNeg)) ((p1 + 1).toNatClampNeg) q_11.toNatClampNeg (((gF w0_near ((p1 + 1).toNatClampNeg) (va_cpy (w0_near p1.toNatClampNeg) (w0_near ((p1 + 1).toNatClampNeg)) (0 : Int32).toNatClampNeg (0 : Int32).toNatClampNeg (12 : Int32).toNatClampNeg)) ((p1 + 1).toNatClampNeg) q_11.toNatClampNeg) ||| ((1 : Int32) <<< (q_14 &&& 31)))) ((p1 + 1).toNatClampNeg) q_14.toNatClampNeg (((gU (gF w0_near ((p1 + 1).toNatClampNeg) (va_cpy (w0_near p1.toNatClampNeg) (w0_near ((p1 + 1).toNatClampNeg)) (0 : Int32).toNatClampNeg (0 : Int32).toNatClampNeg (12 : Int32).toNatClampNeg)) ((p1 + 1).toNatClampNeg) q_11.toNatClampNeg (((gF w0_near ((p1 + 1).toNatClampNeg) (va_cpy (w0_near p1.toNatClampNeg) (w0_near ((p1 + 1).toNatClampNeg)) (0 : Int32).toNatClampNeg (0 : Int32).toNatClampNeg (12 : Int32).toNatClampNeg)) ((p1 + 1).toNatClampNeg) q_11.toNatClampNeg) ||| ((1 : Int32) <<< (q_14 &&& 31)))) ((p1 + 1).toNatClampNeg) q_14.toNatClampNeg) ||| ((1 : Int32) <<< (q_11 &&& 31)))) p1.toNatClampNeg q_11.toNatClampNeg (((gU (gU (gF w0_near ((p1 + 1).toNatClampNeg) (va_cpy (w0_near p1.toNatClampNeg) (w0_near ((p1 + 1).toNatClampNeg)) (0 : Int32).toNatClampNeg (0 : Int32).toNatClampNeg (12 : Int32).toNatClampNeg)) ((p1 + 1).toNatClampNeg) q_11.toNatClampNeg (((gF w0_near ((p1 + 1).toNatClampNeg) (va_cpy (w0_near p1.toNatClampNeg) (w0_near ((p1 + 1).toNatClampNeg)) (0 : Int32).toNatClampNeg (0 : Int32).toNatClampNeg (12 : Int32).toNatClampNeg)) ((p1 + 1).toNatClampNeg) q_11.toNatClampNeg) ||| ((1 : Int32) <<< (q_14 &&& 31)))) ((p1 + 1).toNatClampNeg) q_14.toNatClampNeg (((gU (gF w0_near ((p1 + 1).toNatClampNeg) (va_cpy (w0_near p1.toNatClampNeg) (w0_near ((p1 + 1).toNatClampNeg)) (0 : Int32).toNatClampNeg (0 : Int32).toNatClampNeg (12 : Int32).toNatClampNeg)) ((p1 + 1).toNatClampNeg) q_11.toNatClampNeg (((gF w0_near ((p1 + 1).toNatClampNeg) (va_cpy (w0_near p1.toNatClampNeg) (w0_near ((p1 + 1).toNatClampNeg)) (0 : Int32).toNatClampNeg (0 : Int32).toNatClampNeg (12 : Int32).toNatClampNeg)) ((p1 + 1).toNatClampNeg) q_11.toNatClampNeg) ||| ((1 : Int32) <<< (q_14 &&& 31)))) ((p1 + 1).toNatClampNeg) q_14.toNatClampNeg) ||| ((1 : Int32) <<< (q_11 &&& 31)))) p1.toNatClampNeg q_11.toNatClampNeg) ||| ((gU (gU (gF w0_near ((p1 + 1).toNatClampNeg) (va_cpy (w0_near p1.toNatClampNeg) (w0_near ((p1 + 1).toNatClampNeg)) (0 : Int32).toNatClampNeg (0 : Int32).toNatClampNeg (12 : Int32).toNatClampNeg)) ((p1 + 1).toNatClampNeg) q_11.toNatClampNeg (((gF w0_near ((p1 + 1).toNatClampNeg) (va_cpy (w0_near p1.toNatClampNeg) (w0_near ((p1 + 1).toNatClampNeg)) (0 : Int32).toNatClampNeg (0 : Int32).toNatClampNeg (12 : Int32).toNatClampNeg)) ((p1 + 1).toNatClampNeg) q_11.toNatClampNeg) ||| ((1 : Int32) <<< (q_14 &&& 31)))) ((p1 + 1).toNatClampNeg) q_14.toNatClampNeg (((gU (gF w0_near ((p1 + 1).toNatClampNeg) (va_cpy (w0_near p1.toNatClampNeg) (w0_near ((p1 + 1).toNatClampNeg)) (0 : Int32).toNatClampNeg (0 : Int32).toNatClampNeg (12 : Int32).toNatClampNeg)) ((p1 + 1).toNatClampNeg) q_11.toNatClampNeg (((gF w0_near ((p1 + 1).toNatClampNeg) (va_cpy (w0_near p1.toNatClampNeg) (w0_near ((p1 + 1).toNatClampNeg)) (0 : Int32).toNatClampNeg (0 : Int32).toNatClampNeg (12 : Int32).toNatClampNeg)) ((p1 + 1).toNatClampNeg) q_11.toNatClampNeg) ||| ((1 : Int32) <<< (q_14 &&& 31)))) ((p1 + 1).toNatClampNeg) q_14.toNatClampNeg) ||| ((1 : Int32) <<< (q_11 &&& 31)))) p1.toNatClampNeg q_14.toNatClampNeg)))) H := hP
  have hD : va_D A (wd_Pol_splitTop cI cJ cG cZ a0 a0_near a0_nodes a0_factors a0_powers a0_product r0_near v0_versionSeen (upd w0_nodes (p1 + 1).toNatClampNeg (w0_nodes p1.toNatClampNeg)) (vp_updL w0_factors (p1 + 1).toNatClampNeg (w0_factors p1.toNatClampNeg)) (gU (gU (gU (gF w0_near ((p1 + 1).toNatClampNeg) (va_cpy (w0_near p1.toNatClampNeg) (w0_near ((p1 + 1).toNatClampNeg)) (0 : Int32).toNatClampNeg (0 : Int32).toNatClampNeg (12 : Int32).toNatClampNeg)) ((p1 + 1).toNatClampNeg) q_11.toNatClampNeg (((gF w0_near ((p1 + 1).toNatClampNeg) (va_cpy (w0_near p1.toNatClampNeg) (w0_near ((p1 + 1).toNatClampNeg)) (0 : Int32).toNatClampNeg (0 : Int32).toNatClampNeg (12 : Int32).toNatClampNeg)) ((p1 + 1).toNatClampNeg) q_11.toNatClampNeg) ||| ((1 : Int32) <<< (q_14 &&& 31)))) ((p1 + 1).toNatClampNeg) q_14.toNatClampNeg (((gU (gF w0_near ((p1 + 1).toNatClampNeg) (va_cpy (w0_near p1.toNatClampNeg) (w0_near ((p1 + 1).toNatClampNeg)) (0 : Int32).toNatClampNeg (0 : Int32).toNatClampNeg (12 : Int32).toNatClampNeg)) ((p1 + 1).toNatClampNeg) q_11.toNatClampNeg (((gF w0_near ((p1 + 1).toNatClampNeg) (va_cpy (w0_near p1.toNatClampNeg) (w0_near ((p1 + 1).toNatClampNeg)) (0 : Int32).toNatClampNeg (0 : Int32).toNatClampNeg (12 : Int32).toNatClampNeg)) ((p1 + 1).toNatClampNeg) q_11.toNatClampNeg) ||| ((1 : Int32) <<< (q_14 &&& 31)))) ((p1 + 1).toNatClampNeg) q_14.toNatClampNeg) ||| ((1 : Int32) <<< (q_11 &&& 31)))) p1.toNatClampNeg q_11.toNatClampNeg (((gU (gU (gF w0_near ((p1 + 1).toNatClampNeg) (va_cpy (w0_near p1.toNatClampNeg) (w0_near ((p1 + 1).toNatClampNeg)) (0 : Int32).toNatClampNeg (0 : Int32).toNatClampNeg (12 : Int32).toNatClampNeg)) ((p1 + 1).toNatClampNeg) q_11.toNatClampNeg (((gF w0_near ((p1 + 1).toNatClampNeg) (va_cpy (w0_near p1.toNatClampNeg) (w0_near ((p1 + 1).toNatClampNeg)) (0 : Int32).toNatClampNeg (0 : Int32).toNatClampNeg (12 : Int32).toNatClampNeg)) ((p1 + 1).toNatClampNeg) q_11.toNatClampNeg) ||| ((1 : Int32) <<< (q_14 &&& 31)))) ((p1 + 1).toNatClampNeg) q_14.toNatClampNeg (((gU (gF w0_near ((p1 + 1).toNatClampNeg) (va_cpy (w0_near p1.toNatClampNeg) (w0_near ((p1 + 1).toNatClampNeg)) (0 : Int32).toNatClampNeg (0 : Int32).toNatClampNeg (12 : Int32).toNatClampNeg)) ((p1 + 1).toNatClampNeg) q_11.toNatClampNeg (((gF w0_near ((p1 + 1).toNatClampNeg) (va_cpy (w0_near p1.toNatClampNeg) (w0_near ((p1 + 1).toNatClampNeg)) (0 : Int32).toNatClampNeg (0 : Int32).toNatClampNeg (12 : Int32).toNatClampNeg)) ((p1 + 1).toNatClampNeg) q_11.toNatClampNeg) ||| ((1 : Int32) <<< (q_14 &&& 31)))) ((p1 + 1).toNatClampNeg) q_14.toNatClampNeg) ||| ((1 : Int32) <<< (q_11 &&& 31)))) p1.toNatClampNeg q_11.toNatClampNeg) ||| ((gU (gU (gF w0_near ((p1 + 1).toNatClampNeg) (va_cpy (w0_near p1.toNatClampNeg) (w0_near ((p1 + 1).toNatClampNeg)) (0 : Int32).toNatClampNeg (0 : Int32).toNatClampNeg (12 : Int32).toNatClampNeg)) ((p1 + 1).toNatClampNeg) q_11.toNatClampNeg (((gF w0_near ((p1 + 1).toNatClampNeg) (va_cpy (w0_near p1.toNatClampNeg) (w0_near ((p1 + 1).toNatClampNeg)) (0 : Int32).toNatClampNeg (0 : Int32).toNatClampNeg (12 : Int32).toNatClampNeg)) ((p1 + 1).toNatClampNeg) q_11.toNatClampNeg) ||| ((1 : Int32) <<< (q_14 &&& 31)))) ((p1 + 1).toNatClampNeg) q_14.toNatClampNeg (((gU (gF w0_near ((p1 + 1).toNatClampNeg) (va_cpy (w0_near p1.toNatClampNeg) (w0_near ((p1 + 1).toNatClampNeg)) (0 : Int32).toNatClampNeg (0 : Int32).toNatClampNeg (12 : Int32).toNatClampNeg)) ((p1 + 1).toNatClampNeg) q_11.toNatClampNeg (((gF w0_near ((p1 + 1).toNatClampNeg) (va_cpy (w0_near p1.toNatClampNeg) (w0_near ((p1 + 1).toNatClampNeg)) (0 : Int32).toNatClampNeg (0 : Int32).toNatClampNeg (12 : Int32).toNatClampNeg)) ((p1 + 1).toNatClampNeg) q_11.toNatClampNeg) ||| ((1 : Int32) <<< (q_14 &&& 31)))) ((p1 + 1).toNatClampNeg) q_14.toNatClampNeg) ||| ((1 : Int32) <<< (q_11 &&& 31)))) p1.toNatClampNeg q_14.toNatClampNeg)))) := hD
  refine lv_iconst (v := 0) hx hb d_Pol_splitTop_143 (by decide) ?_
  refine lv_istore (lv' := [(6, .int 0), (5, .ref (r0_near p1.toNatClampNeg)), (4, .int q_14), (3, .int q_11), (2, .int q_8), (0, .ref a0), (1, .int p1)]) hx hb d_Pol_splitTop_144 hl (by decide) rfl (fun ls hl => ?_)
  refine gL_e (P := (fun (z_146 : Int32 × (Nat → Nat → Int32)) => ∀ (x6_39 : Int32), ∀ (w0_near_40 : Nat → Nat → Int32), z_146 = (x6_39, w0_near_40) → ∀ (ls : Array Slot) (H : Heap) (locs : List Loc), lv_has ls 7 [(0, .ref a0), (1, .int p1), (3, .int q_11), (4, .int q_14), (5, .ref (r0_near p1.toNatClampNeg)), (6, .int x6_39)] → va_P (dC, dI) vwCl (wd_Pol_splitTop cI cJ cG cZ a0 a0_near a0_nodes a0_factors a0_powers a0_product r0_near v0_versionSeen (upd w0_nodes (p1 + 1).toNatClampNeg (w0_nodes p1.toNatClampNeg)) (vp_updL w0_factors (p1 + 1).toNatClampNeg (w0_factors p1.toNatClampNeg)) w0_near_40) H → va_D A (wd_Pol_splitTop cI cJ cG cZ a0 a0_near a0_nodes a0_factors a0_powers a0_product r0_near v0_versionSeen (upd w0_nodes (p1 + 1).toNatClampNeg (w0_nodes p1.toNatClampNeg)) (vp_updL w0_factors (p1 + 1).toNatClampNeg (w0_factors p1.toNatClampNeg)) w0_near_40) → va_S A s.heap H locs → W p l e (headSpec us_Pol_splitTop rm_Pol_splitTop).room s m ([.ref a0, .int p1] : List Value).toArray below meth c H locs 0 0 (MQ below (va_Qv (fun (_ : Unit) => True) (fun _ t => PoS (dC, dI) (tyL cI cJ cG cZ) (wd_Pol_splitTop cI cJ cG cZ a0 a0_near a0_nodes a0_factors a0_powers a0_product r0_near v0_versionSeen o_w0_nodes o_w0_factors o_w0_near) A t) A) ([.ref a0, .int p1] : List Value).toArray s 0 0 A) (F0 m 146 ls []))) hm (fun k_146 z_146 ih_146 hm => ?_) _ _ rfl ls H locs (lv_sub hl [5, 6, 3, 2, 1, 0] rfl) hP hD hS
  intro x6_39 w0_near_40 hz ls H locs hl hP hD hS
  subst hz
  dsimp only at hm
  refine lv_iload hx hb d_Pol_splitTop_146 (lv_at hl 5 rfl) ?_
  refine lv_bipush (v := 12) hx hb d_Pol_splitTop_148 (by decide) ?_
  refine lv_icmp_ge (tgt := 183) hx hb d_Pol_splitTop_150 (by decide) (fun c_41 => ?_) (fun c_41 => ?_)
  · have hm := ite_t c_41 hm
    refine lv_aload_n hx hb d_Pol_splitTop_183 rfl (lv_at hl 0 rfl) ?_
    refine va_get (D := (dC, dI)) (ci := 3) (v := .ref a0_nodes) (C := R_Pol) (T := T_Pol) (N := 6) hx hb htt hin_Pol hown hK hP 0 rfl rfl 1 (by decide) (htt _ kt_121) (fun _ h9 => h9) rfl d_Pol_splitTop_184 ?_
    refine lv_iload_n hx hb d_Pol_splitTop_187 rfl (lv_at hl 1 rfl) ?_
    refine lv_dup2_11 hx hb d_Pol_splitTop_188 rfl rfl ?_
    obtain ⟨hi_42, hm⟩ := gC_e hm
    refine va_iald hx hb hK hP 2 0 rfl rfl (inb_vp hi_42) d_Pol_splitTop_189 ?_
    refine lv_iconst (v := 1) hx hb d_Pol_splitTop_190 (by decide) ?_
    refine lv_iload hx hb d_Pol_splitTop_191 (lv_at hl 3 rfl) ?_
    refine lv_ishl hx hb d_Pol_splitTop_193 ?_
    refine lv_iconst (v := (-1)) hx hb d_Pol_splitTop_194 (by decide) ?_
    refine lv_ixor hx hb d_Pol_splitTop_195 ?_
    refine lv_iand hx hb d_Pol_splitTop_196 ?_
    obtain ⟨hi_43, hm⟩ := gC_e hm
    refine va_iast hx hb hK hP hD hS 2 0 rfl rfl (inb_vp hi_43) d_Pol_splitTop_197 (fun H locs hP hD hS => ?_)
    have hP : va_P (dC, dI) vwCl (wd_Pol_splitTop cI cJ cG cZ a0 a0_near a0_nodes a0_factors a0_powers a0_product r0_near v0_versionSeen (upd (upd w0_nodes (p1 + 1).toNatClampNeg (w0_nodes p1.toNatClampNeg)) p1.toNatClampNeg (((upd w0_nodes (p1 + 1).toNatClampNeg (w0_nodes p1.toNatClampNeg)) p1.toNatClampNeg) &&& (((1 : Int32) <<< (q_14 &&& 31)) ^^^ (-1)))) (vp_updL w0_factors (p1 + 1).toNatClampNeg (w0_factors p1.toNatClampNeg)) w0_near_40) H := hP
    have hD : va_D A (wd_Pol_splitTop cI cJ cG cZ a0 a0_near a0_nodes a0_factors a0_powers a0_product r0_near v0_versionSeen (upd (upd w0_nodes (p1 + 1).toNatClampNeg (w0_nodes p1.toNatClampNeg)) p1.toNatClampNeg (((upd w0_nodes (p1 + 1).toNatClampNeg (w0_nodes p1.toNatClampNeg)) p1.toNatClampNeg) &&& (((1 : Int32) <<< (q_14 &&& 31)) ^^^ (-1)))) (vp_updL w0_factors (p1 + 1).toNatClampNeg (w0_factors p1.toNatClampNeg)) w0_near_40) := hD
    cases hm
    exact W.vret hx hb hr (fun t ht hW => ⟨⟨(), rfl, trivial, by rw [ht]; exact hP, va_K.moved hW.alike hK, hD⟩, hS.F ht⟩) hS.2.2 d_Pol_splitTop_198
  · have hm := ite_f c_41 hm
    refine lv_aload hx hb d_Pol_splitTop_153 (lv_at hl 4 rfl) ?_
    refine lv_iload hx hb d_Pol_splitTop_155 (lv_at hl 3 rfl) ?_
    obtain ⟨hi_44, hm⟩ := gC_e hm
    refine va_iald hx hb hK hP (4 + p1.toNatClampNeg) 0 (rows_get rfl hj_35) rfl (inb_vp hi_44) d_Pol_splitTop_157 ?_
    refine lv_iload hx hb d_Pol_splitTop_158 (lv_at hl 5 rfl) ?_
    refine lv_ishr hx hb d_Pol_splitTop_160 ?_
    refine lv_iconst (v := 1) hx hb d_Pol_splitTop_161 (by decide) ?_
    refine lv_iand hx hb d_Pol_splitTop_162 ?_
    refine lv_if_eq (tgt := 177) hx hb d_Pol_splitTop_163 (by decide) (fun c_45 => ?_) (fun c_45 => ?_)
    · have hm := ite_t c_45 hm
      obtain ⟨x6_46, ex6_46⟩ : ∃ y : Int32, y = x6_39 + 1 := ⟨_, rfl⟩
      have hm := gB_at ex6_46 hm
      refine lv_iinc (v := x6_46) (lv' := [(6, .int x6_46), (0, .ref a0), (1, .int p1), (3, .int q_11), (4, .int q_14), (5, .ref (r0_near p1.toNatClampNeg))]) hx hb d_Pol_splitTop_177 hl (k := 5) rfl (by rw [ex6_46]; rfl) (by decide) rfl (fun ls hl => ?_)
      refine lv_goto (tgt := 146) hx hb d_Pol_splitTop_180 (by decide) ?_
      exact ih_146 _ hm _ _ rfl ls H locs (lv_sub hl [1, 2, 3, 4, 5, 0] rfl) hP hD hS
    · have hm := ite_f c_45 hm
      refine lv_aload hx hb d_Pol_splitTop_166 (lv_at hl 4 rfl) ?_
      refine lv_iload hx hb d_Pol_splitTop_168 (lv_at hl 5 rfl) ?_
      refine lv_dup2_11 hx hb d_Pol_splitTop_170 rfl rfl ?_
      obtain ⟨hi_47, hm⟩ := gC_e hm
      refine va_iald hx hb hK hP (4 + p1.toNatClampNeg) 0 (rows_get rfl hj_35) rfl (inb_vp hi_47) d_Pol_splitTop_171 ?_
      refine lv_iconst (v := 1) hx hb d_Pol_splitTop_172 (by decide) ?_
      refine lv_iload_n hx hb d_Pol_splitTop_173 rfl (lv_at hl 2 rfl) ?_
      refine lv_ishl hx hb d_Pol_splitTop_174 ?_
      refine lv_ior hx hb d_Pol_splitTop_175 ?_
      obtain ⟨hi_48, hm⟩ := gC_e hm
      refine va_iast hx hb hK hP hD hS (4 + p1.toNatClampNeg) 0 (rows_get rfl hj_35) rfl (inb_vp hi_48) d_Pol_splitTop_176 (fun H locs hP hD hS => ?_)
      have hP := rows_setP rfl hP
      have hD := rows_setD rfl hD
      have hP : va_P (dC, dI) vwCl (wd_Pol_splitTop cI cJ cG cZ a0 a0_near a0_nodes a0_factors a0_powers a0_product r0_near v0_versionSeen (upd w0_nodes (p1 + 1).toNatClampNeg (w0_nodes p1.toNatClampNeg)) (vp_updL w0_factors (p1 + 1).toNatClampNeg (w0_factors p1.toNatClampNeg)) (gU w0_near_40 p1.toNatClampNeg x6_39.toNatClampNeg ((w0_near_40 p1.toNatClampNeg x6_39.toNatClampNeg) ||| ((1 : Int32) <<< (q_11 &&& 31))))) H := hP
      have hD : va_D A (wd_Pol_splitTop cI cJ cG cZ a0 a0_near a0_nodes a0_factors a0_powers a0_product r0_near v0_versionSeen (upd w0_nodes (p1 + 1).toNatClampNeg (w0_nodes p1.toNatClampNeg)) (vp_updL w0_factors (p1 + 1).toNatClampNeg (w0_factors p1.toNatClampNeg)) (gU w0_near_40 p1.toNatClampNeg x6_39.toNatClampNeg ((w0_near_40 p1.toNatClampNeg x6_39.toNatClampNeg) ||| ((1 : Int32) <<< (q_11 &&& 31))))) := hD
      obtain ⟨x6_49, ex6_49⟩ : ∃ y : Int32, y = x6_39 + 1 := ⟨_, rfl⟩
      have hm := gB_at ex6_49 hm
      refine lv_iinc (v := x6_49) (lv' := [(6, .int x6_49), (0, .ref a0), (1, .int p1), (3, .int q_11), (4, .int q_14), (5, .ref (r0_near p1.toNatClampNeg))]) hx hb d_Pol_splitTop_177 hl (k := 5) rfl (by rw [ex6_49]; rfl) (by decide) rfl (fun ls hl => ?_)
      refine lv_goto (tgt := 146) hx hb d_Pol_splitTop_180 (by decide) ?_
      exact ih_146 _ hm _ _ rfl ls H locs (lv_sub hl [1, 2, 3, 4, 5, 0] rfl) hP hD hS
theorem d_Pol_update_0 : decode prog_6_method_4_code 0 = .ok (.aload_n 0, 1) := by decide +kernel
theorem d_Pol_update_1 : decode prog_6_method_4_code 1 = .ok (.getfield 30, 3) := by decide +kernel
theorem d_Pol_update_4 : decode prog_6_method_4_code 4 = .ok (.aload_n 1, 1) := by decide +kernel
theorem d_Pol_update_5 : decode prog_6_method_4_code 5 = .ok (.getfield 42, 3) := by decide +kernel
theorem d_Pol_update_8 : decode prog_6_method_4_code 8 = .ok (.if_icmp .ne 4, 3) := by decide +kernel
theorem d_Pol_update_11 : decode prog_6_method_4_code 11 = .ok (.return_, 1) := by decide +kernel
theorem d_Pol_update_12 : decode prog_6_method_4_code 12 = .ok (.aload_n 0, 1) := by decide +kernel
theorem d_Pol_update_13 : decode prog_6_method_4_code 13 = .ok (.aload_n 1, 1) := by decide +kernel
theorem d_Pol_update_14 : decode prog_6_method_4_code 14 = .ok (.getfield 42, 3) := by decide +kernel
theorem d_Pol_update_17 : decode prog_6_method_4_code 17 = .ok (.putfield 30, 3) := by decide +kernel
theorem d_Pol_update_20 : decode prog_6_method_4_code 20 = .ok (.aload_n 0, 1) := by decide +kernel
theorem d_Pol_update_21 : decode prog_6_method_4_code 21 = .ok (.getfield 24, 3) := by decide +kernel
theorem d_Pol_update_24 : decode prog_6_method_4_code 24 = .ok (.lconst 0, 1) := by decide +kernel
theorem d_Pol_update_25 : decode prog_6_method_4_code 25 = .ok (.invokestatic 45, 3) := by decide +kernel
theorem d_Pol_update_28 : decode prog_6_method_4_code 28 = .ok (.aload_n 1, 1) := by decide +kernel
theorem d_Pol_update_29 : decode prog_6_method_4_code 29 = .ok (.getfield 51, 3) := by decide +kernel
theorem d_Pol_update_32 : decode prog_6_method_4_code 32 = .ok (.iconst 0, 1) := by decide +kernel
theorem d_Pol_update_33 : decode prog_6_method_4_code 33 = .ok (.aload_n 0, 1) := by decide +kernel
theorem d_Pol_update_34 : decode prog_6_method_4_code 34 = .ok (.getfield 13, 3) := by decide +kernel
theorem d_Pol_update_37 : decode prog_6_method_4_code 37 = .ok (.iconst 0, 1) := by decide +kernel
theorem d_Pol_update_38 : decode prog_6_method_4_code 38 = .ok (.aaload, 1) := by decide +kernel
theorem d_Pol_update_39 : decode prog_6_method_4_code 39 = .ok (.iconst 0, 1) := by decide +kernel
theorem d_Pol_update_40 : decode prog_6_method_4_code 40 = .ok (.bipush 12, 2) := by decide +kernel
theorem d_Pol_update_42 : decode prog_6_method_4_code 42 = .ok (.invokestatic 53, 3) := by decide +kernel
theorem d_Pol_update_45 : decode prog_6_method_4_code 45 = .ok (.aload_n 0, 1) := by decide +kernel
theorem d_Pol_update_46 : decode prog_6_method_4_code 46 = .ok (.getfield 16, 3) := by decide +kernel
theorem d_Pol_update_49 : decode prog_6_method_4_code 49 = .ok (.iconst 0, 1) := by decide +kernel
theorem d_Pol_update_50 : decode prog_6_method_4_code 50 = .ok (.aload_n 1, 1) := by decide +kernel
theorem d_Pol_update_51 : decode prog_6_method_4_code 51 = .ok (.invokevirtual 59, 3) := by decide +kernel
theorem d_Pol_update_54 : decode prog_6_method_4_code 54 = .ok (.iastore, 1) := by decide +kernel
theorem d_Pol_update_55 : decode prog_6_method_4_code 55 = .ok (.aload_n 0, 1) := by decide +kernel
theorem d_Pol_update_56 : decode prog_6_method_4_code 56 = .ok (.getfield 20, 3) := by decide +kernel
theorem d_Pol_update_59 : decode prog_6_method_4_code 59 = .ok (.iconst 0, 1) := by decide +kernel
theorem d_Pol_update_60 : decode prog_6_method_4_code 60 = .ok (.lconst 0, 1) := by decide +kernel
theorem d_Pol_update_61 : decode prog_6_method_4_code 61 = .ok (.lastore, 1) := by decide +kernel
theorem d_Pol_update_62 : decode prog_6_method_4_code 62 = .ok (.iconst 0, 1) := by decide +kernel
theorem d_Pol_update_63 : decode prog_6_method_4_code 63 = .ok (.istore_n 2, 1) := by decide +kernel
theorem d_Pol_update_64 : decode prog_6_method_4_code 64 = .ok (.iconst 0, 1) := by decide +kernel
theorem d_Pol_update_65 : decode prog_6_method_4_code 65 = .ok (.istore_n 3, 1) := by decide +kernel
theorem d_Pol_update_66 : decode prog_6_method_4_code 66 = .ok (.iload_n 3, 1) := by decide +kernel
theorem d_Pol_update_67 : decode prog_6_method_4_code 67 = .ok (.ldc 63, 2) := by decide +kernel
theorem d_Pol_update_69 : decode prog_6_method_4_code 69 = .ok (.if_icmp .ge 59, 3) := by decide +kernel
theorem d_Pol_update_72 : decode prog_6_method_4_code 72 = .ok (.iload_n 2, 1) := by decide +kernel
theorem d_Pol_update_73 : decode prog_6_method_4_code 73 = .ok (.ifCond .lt 55, 3) := by decide +kernel
theorem d_Pol_update_76 : decode prog_6_method_4_code 76 = .ok (.aload_n 0, 1) := by decide +kernel
theorem d_Pol_update_77 : decode prog_6_method_4_code 77 = .ok (.iload_n 2, 1) := by decide +kernel
theorem d_Pol_update_78 : decode prog_6_method_4_code 78 = .ok (.invokevirtual 64, 3) := by decide +kernel
theorem d_Pol_update_81 : decode prog_6_method_4_code 81 = .ok (.aload_n 0, 1) := by decide +kernel
theorem d_Pol_update_82 : decode prog_6_method_4_code 82 = .ok (.getfield 16, 3) := by decide +kernel
theorem d_Pol_update_85 : decode prog_6_method_4_code 85 = .ok (.iload_n 2, 1) := by decide +kernel
theorem d_Pol_update_86 : decode prog_6_method_4_code 86 = .ok (.iaload, 1) := by decide +kernel
theorem d_Pol_update_87 : decode prog_6_method_4_code 87 = .ok (.ifCond .ne 19, 3) := by decide +kernel
theorem d_Pol_update_90 : decode prog_6_method_4_code 90 = .ok (.aload_n 0, 1) := by decide +kernel
theorem d_Pol_update_91 : decode prog_6_method_4_code 91 = .ok (.aload_n 0, 1) := by decide +kernel
theorem d_Pol_update_92 : decode prog_6_method_4_code 92 = .ok (.getfield 20, 3) := by decide +kernel
theorem d_Pol_update_95 : decode prog_6_method_4_code 95 = .ok (.iload_n 2, 1) := by decide +kernel
theorem d_Pol_update_96 : decode prog_6_method_4_code 96 = .ok (.laload, 1) := by decide +kernel
theorem d_Pol_update_97 : decode prog_6_method_4_code 97 = .ok (.invokevirtual 68, 3) := by decide +kernel
theorem d_Pol_update_100 : decode prog_6_method_4_code 100 = .ok (.iinc 2 (-1), 3) := by decide +kernel
theorem d_Pol_update_103 : decode prog_6_method_4_code 103 = .ok (.goto 19, 3) := by decide +kernel
theorem d_Pol_update_106 : decode prog_6_method_4_code 106 = .ok (.iload_n 2, 1) := by decide +kernel
theorem d_Pol_update_107 : decode prog_6_method_4_code 107 = .ok (.iconst 1, 1) := by decide +kernel
theorem d_Pol_update_108 : decode prog_6_method_4_code 108 = .ok (.iadd, 1) := by decide +kernel
theorem d_Pol_update_109 : decode prog_6_method_4_code 109 = .ok (.bipush 68, 2) := by decide +kernel
theorem d_Pol_update_111 : decode prog_6_method_4_code 111 = .ok (.if_icmp .ge 11, 3) := by decide +kernel
theorem d_Pol_update_114 : decode prog_6_method_4_code 114 = .ok (.aload_n 0, 1) := by decide +kernel
theorem d_Pol_update_115 : decode prog_6_method_4_code 115 = .ok (.iload_n 2, 1) := by decide +kernel
theorem d_Pol_update_116 : decode prog_6_method_4_code 116 = .ok (.invokevirtual 72, 3) := by decide +kernel
theorem d_Pol_update_119 : decode prog_6_method_4_code 119 = .ok (.iinc 2 1, 3) := by decide +kernel
theorem d_Pol_update_122 : decode prog_6_method_4_code 122 = .ok (.iinc 3 1, 3) := by decide +kernel
theorem d_Pol_update_125 : decode prog_6_method_4_code 125 = .ok (.goto (-59), 3) := by decide +kernel
theorem d_Pol_update_128 : decode prog_6_method_4_code 128 = .ok (.return_, 1) := by decide +kernel
abbrev wd_Pol_update (cI cJ cG cZ : ClassId) (a0 a1 a0_near a0_nodes a0_factors a0_powers a0_product a1_near a1_tail a1_head : Nat) (r0_near : Nat → Nat) (v0_versionSeen : Int32) (w0_nodes : Nat → Int32) (w0_factors : Nat → Int64) (w0_powers : Nat → Int64) (w0_product : Nat → Int64) (v1_nodes : Int32) (v1_arcCount : Int32) (v1_version : Int32) (w1_near : Nat → Int32) (w0_near : Nat → Nat → Int32) : va_W := [(a0, .inr (3, [.ref a0_near, .ref a0_nodes, .ref a0_factors, .ref a0_powers, .ref a0_product, .int v0_versionSeen])), (a0_near, .inl (cG, 68, .inr (.inr (.inr (.inr (gO r0_near 68)))))), (a0_nodes, .inl (cI, 68, .inl w0_nodes)), (a0_factors, .inl (cJ, 68, .inr (.inl w0_factors))), (a0_powers, .inl (cJ, 13, .inr (.inl w0_powers))), (a0_product, .inl (cJ, 13, .inr (.inl w0_product))), (a1, .inr (1, [.ref a1_near, .ref a1_tail, .ref a1_head, .int v1_nodes, .int v1_arcCount, .int v1_version])), (a1_near, .inl (cI, 12, .inl w1_near))] ++ rowsW r0_near cI 12 68 w0_near
abbrev we_Pol_update (cI cJ cG cZ : ClassId) (a0 a1 a0_near a0_nodes a0_factors a0_powers a0_product a1_near a1_tail a1_head : Nat) (r0_near : Nat → Nat) (v0_versionSeen : Int32) (w0_nodes : Nat → Int32) (w0_factors : Nat → Int64) (w0_powers : Nat → Int64) (w0_product : Nat → Int64) (v1_nodes : Int32) (v1_arcCount : Int32) (v1_version : Int32) (w1_near : Nat → Int32) (w0_near : Nat → Nat → Int32) : va_W := [(a0, .inr (3, [.ref a0_near, .ref a0_nodes, .ref a0_factors, .ref a0_powers, .ref a0_product, .int v0_versionSeen])), (a0_near, .inl (cG, 68, .inr (.inr (.inr (.inr (gO r0_near 68)))))), (a0_nodes, .inl (cI, 68, .inl w0_nodes)), (a0_factors, .inl (cJ, 68, .inr (.inl w0_factors))), (a0_powers, .inl (cJ, 13, .inr (.inl w0_powers))), (a0_product, .inl (cJ, 13, .inr (.inl w0_product))), (a1, .inr (1, [.ref a1_near, .ref a1_tail, .ref a1_head, .int v1_nodes, .int v1_arcCount, .int v1_version])), (a1_near, .inl (cI, 12, .inl w1_near))]
abbrev us_Pol_update : List Cond := .code y_Pol_update prog_6_method_4_code 4 none :: gtbl
abbrev rm_Pol_update : Room := { frames := 3, cells := 0, slots := 0, locals := 71 }
def m_Pol_update (F : Nat) (v0_versionSeen : Int32) (w0_nodes : Nat → Int32) (w0_factors : Nat → Int64) (w0_powers : Nat → Int64) (w0_product : Nat → Int64) (v1_nodes : Int32) (v1_arcCount : Int32) (v1_version : Int32) (w1_near : Nat → Int32) (w0_near : Nat → Nat → Int32) : Option (Int32 × (Nat → Int32) × (Nat → Int64) × (Nat → Int64) × (Nat → Int64) × (Nat → Nat → Int32)) :=
  if v0_versionSeen = v1_version then (
    some (v0_versionSeen, w0_nodes, w0_factors, w0_powers, w0_product, w0_near)
  ) else (
    gC (inb 0 68) (
    gC (cpyB (0 : Int32) (0 : Int32) (12 : Int32) 12 12) (
    gM (m_Net_everyNode F v1_nodes v1_arcCount v1_version) (fun q_5 =>
    gC (inb 0 68) (
    gC (inb 0 68) (
    gL (fun (k_66 : (Int32 × Int32 × (Nat → Int32) × (Nat → Int64) × (Nat → Int64) × (Nat → Int64) × (Nat → Nat → Int32)) → Option (Int32 × (Nat → Int32) × (Nat → Int64) × (Nat → Int64) × (Nat → Int64) × (Nat → Nat → Int32))) (z_66 : Int32 × Int32 × (Nat → Int32) × (Nat → Int64) × (Nat → Int64) × (Nat → Int64) × (Nat → Nat → Int32)) => match z_66 with
    | (x2_10, x3_11, w0_nodes_12, w0_factors_13, w0_powers_14, w0_product_15, w0_near_16) =>
    if (1000000 : Int32) ≤ x3_11 then (
      some (v1_version, w0_nodes_12, w0_factors_13, w0_powers_14, w0_product_15, w0_near_16)
    ) else (
      if x2_10 < 0 then (
        some (v1_version, w0_nodes_12, w0_factors_13, w0_powers_14, w0_product_15, w0_near_16)
      ) else (
        gM (m_Pol_takeFactors F v1_version w0_nodes_12 w0_factors_13 w0_near_16 x2_10) (fun (z_22 : (Nat → Int32) × (Nat → Int64)) => match z_22 with
        | (w0_nodes_19, w0_factors_20) =>
        gC (inb x2_10 68) (
        if (w0_nodes_19 x2_10.toNatClampNeg) = 0 then (
          gC (inb x2_10 68) (
          gM (m_Pol_addProduct F v1_version w0_powers_14 w0_product_15 (w0_factors_20 x2_10.toNatClampNeg)) (fun (z_38 : (Nat → Int64) × (Nat → Int64)) => match z_38 with
          | (w0_powers_35, w0_product_36) =>
          gB (x2_10 + (-1)) (fun x2_39 =>
          gB (x3_11 + 1) (fun x3_40 =>
          k_66 (x2_39, x3_40, w0_nodes_19, w0_factors_20, w0_powers_35, w0_product_36, w0_near_16)))))
        ) else (
          if (68 : Int32) ≤ (x2_10 + 1) then (
            gB (x3_11 + 1) (fun x3_26 =>
            k_66 (x2_10, x3_26, w0_nodes_19, w0_factors_20, w0_powers_14, w0_product_15, w0_near_16))
          ) else (
            gM (m_Pol_splitTop F v1_version w0_nodes_19 w0_factors_20 w0_near_16 x2_10) (fun (z_31 : (Nat → Int32) × (Nat → Int64) × (Nat → Nat → Int32)) => match z_31 with
            | (w0_nodes_27, w0_factors_28, w0_near_29) =>
            gB (x2_10 + 1) (fun x2_32 =>
            gB (x3_11 + 1) (fun x3_33 =>
            k_66 (x2_32, x3_33, w0_nodes_27, w0_factors_28, w0_powers_14, w0_product_15, w0_near_29))))
          )
        )))
      )
    )
    ) F (0, 0, upd w0_nodes (0 : Int32).toNatClampNeg q_5, vp_updL w0_factors (0 : Int32).toNatClampNeg 0, fillA 13 (0 : Int64) w0_powers, w0_product, gF w0_near ((0 : Int32).toNatClampNeg) (va_cpy w1_near (w0_near ((0 : Int32).toNatClampNeg)) (0 : Int32).toNatClampNeg (0 : Int32).toNatClampNeg (12 : Int32).toNatClampNeg)))))))
  )
set_option maxHeartbeats 4000000 in
set_option maxRecDepth 100000 in
theorem c_Pol_update (l : Launch) (dC : Nat → ClassId) (dI : Nat → Nat → Nat) (cI cJ cG cZ : ClassId) (a0 a1 a0_near a0_nodes a0_factors a0_powers a0_product a1_near a1_tail a1_head : Nat) (r0_near : Nat → Nat) (sz : Nat) (F : Nat) (v0_versionSeen : Int32) (w0_nodes : Nat → Int32) (w0_factors : Nat → Int64) (w0_powers : Nat → Int64) (w0_product : Nat → Int64) (v1_nodes : Int32) (v1_arcCount : Int32) (v1_version : Int32) (w1_near : Nat → Int32) (w0_near : Nat → Nat → Int32) (o_v0_versionSeen : Int32) (o_w0_nodes : Nat → Int32) (o_w0_factors : Nat → Int64) (o_w0_powers : Nat → Int64) (o_w0_product : Nat → Int64) (o_w0_near : Nat → Nat → Int32) (hm : m_Pol_update F v0_versionSeen w0_nodes w0_factors w0_powers w0_product v1_nodes v1_arcCount v1_version w1_near w0_near = some (o_v0_versionSeen, o_w0_nodes, o_w0_factors, o_w0_powers, o_w0_product, o_w0_near)) : Met l y_Pol_update us_Pol_update rm_Pol_update (PcS (dC, dI) (tyL cI cJ cG cZ) [.ref a0, .ref a1] sz (wd_Pol_update cI cJ cG cZ a0 a1 a0_near a0_nodes a0_factors a0_powers a0_product a1_near a1_tail a1_head r0_near v0_versionSeen w0_nodes w0_factors w0_powers w0_product v1_nodes v1_arcCount v1_version w1_near w0_near)) (va_Qv (fun (_ : Unit) => True) (fun _ t => PoS (dC, dI) (tyL cI cJ cG cZ) (wd_Pol_update cI cJ cG cZ a0 a1 a0_near a0_nodes a0_factors a0_powers a0_product a1_near a1_tail a1_head r0_near o_v0_versionSeen o_w0_nodes o_w0_factors o_w0_powers o_w0_product v1_nodes v1_arcCount v1_version w1_near o_w0_near) (va_A (wd_Pol_update cI cJ cG cZ a0 a1 a0_near a0_nodes a0_factors a0_powers a0_product a1_near a1_tail a1_head r0_near v0_versionSeen w0_nodes w0_factors w0_powers w0_product v1_nodes v1_arcCount v1_version w1_near w0_near) sz) t) (va_A (wd_Pol_update cI cJ cG cZ a0 a1 a0_near a0_nodes a0_factors a0_powers a0_product a1_near a1_tail a1_head r0_near v0_versionSeen w0_nodes w0_factors w0_powers w0_product v1_nodes v1_arcCount v1_version w1_near w0_near) sz)) 0 0 (va_A (wd_Pol_update cI cJ cG cZ a0 a1 a0_near a0_nodes a0_factors a0_powers a0_product a1_near a1_tail a1_head r0_near v0_versionSeen w0_nodes w0_factors w0_powers w0_product v1_nodes v1_arcCount v1_version w1_near w0_near) sz) := by
  refine Met.ofW (cc := prog_6_method_4_code) (maxL := 4) (ret := none) (by decide) rfl ?_
  intro p e s m args below meth c s₁ B hml hv
  obtain ⟨rfl, hsz, hP, hK, hD0, hNw⟩ := hv
  have hx := B.exec
  have hb := B.bytes
  have hr := B.returns
  have htt : ∀ w ∈ gtbl, w.before _ s = true := fun w h => atoms_spec (ws := us_Pol_update) B.pre w (List.mem_cons_of_mem _ h)
  have hown : s.vm.findClass R_Pol = some m.cls := findClass_of_methodNamed B.named
  have hlocks := B.notSynchronized
  subst hsz
  have hD := hD0.self (sz := s.heap.size)
  generalize hAe : va_A (wd_Pol_update cI cJ cG cZ a0 a1 a0_near a0_nodes a0_factors a0_powers a0_product a1_near a1_tail a1_head r0_near v0_versionSeen w0_nodes w0_factors w0_powers w0_product v1_nodes v1_arcCount v1_version w1_near w0_near) s.heap.size = A at hD ⊢
  have hA : ∀ q : Nat, s.heap.size ≤ q → A q := fun q h => by rw [← hAe]; exact Or.inr h
  clear hAe hD0
  have hS : va_S A s.heap s.heap [] := va_S.rf
  have hl := lv_entry ([.ref a0, .ref a1]) (n := 4) (Nat.le_of_ble_eq_true rfl)
  rw [lg_entry_eq]
  generalize (lg_sl ([.ref a0, .ref a1]) ++ List.replicate (4 - (lg_sl ([.ref a0, .ref a1])).length) Slot.unset).toArray = ls at hl ⊢
  have hl : lv_has ls 4 [(0, .ref a0), (1, .ref a1)] := hl
  generalize hH : s.heap = H at hP ⊢
  have hS : va_S A s.heap H [] := hH ▸ hS
  generalize hLo : ([] : List Loc) = locs at hS ⊢
  clear hH hLo
  unfold m_Pol_update at hm
  refine lv_aload_n hx hb d_Pol_update_0 rfl (lv_at hl 0 rfl) ?_
  refine va_get (D := (dC, dI)) (ci := 3) (v := .int v0_versionSeen) (C := R_Pol) (T := T_Pol) (N := 6) hx hb htt hin_Pol hown hK hP 0 rfl rfl 5 (by decide) (htt _ kt_125) (fun _ h9 => h9) rfl d_Pol_update_1 ?_
  refine lv_aload_n hx hb d_Pol_update_4 rfl (lv_at hl 1 rfl) ?_
  refine va_get (D := (dC, dI)) (ci := 1) (v := .int v1_version) (C := R_Net) (T := T_Net) (N := 6) hx hb htt hin_Net hown hK hP 6 rfl rfl 5 (by decide) (htt _ kt_58) (fun _ h9 => h9) rfl d_Pol_update_5 ?_
  refine lv_icmp_ne (tgt := 12) hx hb d_Pol_update_8 (by decide) (fun c_1 => ?_) (fun c_1 => ?_)
  · have hm := ite_f c_1 hm
    refine lv_aload_n hx hb d_Pol_update_12 rfl (lv_at hl 0 rfl) ?_
    refine lv_aload_n hx hb d_Pol_update_13 rfl (lv_at hl 1 rfl) ?_
    refine va_get (D := (dC, dI)) (ci := 1) (v := .int v1_version) (C := R_Net) (T := T_Net) (N := 6) hx hb htt hin_Net hown hK hP 6 rfl rfl 5 (by decide) (htt _ kt_58) (fun _ h9 => h9) rfl d_Pol_update_14 ?_
    refine va_put (D := (dC, dI)) (ci := 3) (v := .int v1_version) (ty := .int) (C := R_Pol) (T := T_Pol) (N := 6) hx hb htt hin_Pol ty_Pol tyok_Pol nm_Pol hown hK hP hD hS 0 rfl rfl 5 (by decide) (htt _ kt_125) (fun _ h9 => h9) rfl (by decide +kernel) rfl rfl (Nat.le_of_ble_eq_true rfl) d_Pol_update_17 (fun H locs hP hD hS => ?_)
    have hP : va_P (dC, dI) vwCl (wd_Pol_update cI cJ cG cZ a0 a1 a0_near a0_nodes a0_factors a0_powers a0_product a1_near a1_tail a1_head r0_near v1_version w0_nodes w0_factors w0_powers w0_product v1_nodes v1_arcCount v1_version w1_near w0_near) H := hP
    have hD : va_D A (wd_Pol_update cI cJ cG cZ a0 a1 a0_near a0_nodes a0_factors a0_powers a0_product a1_near a1_tail a1_head r0_near v1_version w0_nodes w0_factors w0_powers w0_product v1_nodes v1_arcCount v1_version w1_near w0_near) := hD
    refine lv_aload_n hx hb d_Pol_update_20 rfl (lv_at hl 0 rfl) ?_
    refine va_get (D := (dC, dI)) (ci := 3) (v := .ref a0_powers) (C := R_Pol) (T := T_Pol) (N := 6) hx hb htt hin_Pol hown hK hP 0 rfl rfl 3 (by decide) (htt _ kt_123) (fun _ h9 => h9) rfl d_Pol_update_21 ?_
    refine lv_lconst (v := 0) hx hb d_Pol_update_24 (by decide) ?_
    refine gx_filll hx hb hml hown htt kt_395 hK hNw hP hD hS hA 4 rfl (by decide) hl.1 (lv_room (Nat.le_of_ble_eq_true rfl)) (Nat.le_of_ble_eq_true rfl) (Nat.le_of_ble_eq_true rfl) (Nat.zero_le _) (Nat.zero_le _) d_Pol_update_25 (fun H locs hP hD hS => ?_)
    have hP : va_P (dC, dI) vwCl (wd_Pol_update cI cJ cG cZ a0 a1 a0_near a0_nodes a0_factors a0_powers a0_product a1_near a1_tail a1_head r0_near v1_version w0_nodes w0_factors (fillA 13 (0 : Int64) w0_powers) w0_product v1_nodes v1_arcCount v1_version w1_near w0_near) H := hP
    have hD : va_D A (wd_Pol_update cI cJ cG cZ a0 a1 a0_near a0_nodes a0_factors a0_powers a0_product a1_near a1_tail a1_head r0_near v1_version w0_nodes w0_factors (fillA 13 (0 : Int64) w0_powers) w0_product v1_nodes v1_arcCount v1_version w1_near w0_near) := hD
    refine lv_aload_n hx hb d_Pol_update_28 rfl (lv_at hl 1 rfl) ?_
    refine va_get (D := (dC, dI)) (ci := 1) (v := .ref a1_near) (C := R_Net) (T := T_Net) (N := 6) hx hb htt hin_Net hown hK hP 6 rfl rfl 0 (by decide) (htt _ kt_36) (fun _ h9 => h9) rfl d_Pol_update_29 ?_
    refine lv_iconst (v := 0) hx hb d_Pol_update_32 (by decide) ?_
    refine lv_aload_n hx hb d_Pol_update_33 rfl (lv_at hl 0 rfl) ?_
    refine va_get (D := (dC, dI)) (ci := 3) (v := .ref a0_near) (C := R_Pol) (T := T_Pol) (N := 6) hx hb htt hin_Pol hown hK hP 0 rfl rfl 0 (by decide) (htt _ kt_120) (fun _ h9 => h9) rfl d_Pol_update_34 ?_
    refine lv_iconst (v := 0) hx hb d_Pol_update_37 (by decide) ?_
    obtain ⟨hi_2, hm⟩ := gC_e hm
    have hj_3 := inb_lt hi_2
    refine gx_ald hx hb hK hP 1 2 rfl rfl (inb_vp hi_2) d_Pol_update_38 ?_
    refine lv_iconst (v := 0) hx hb d_Pol_update_39 (by decide) ?_
    refine lv_bipush (v := 12) hx hb d_Pol_update_40 (by decide) ?_
    obtain ⟨hy_4, hm⟩ := gC_e hm
    refine gx_copy hx hb hml hown htt kt_398 hK hP hD hS 7 (8 + (0 : Int32).toNatClampNeg) rfl (rows_get rfl hj_3) hy_4 hl.1 (lv_room (Nat.le_of_ble_eq_true rfl)) (Nat.le_of_ble_eq_true rfl) (Nat.le_of_ble_eq_true rfl) d_Pol_update_42 (fun H locs hP hD hS => ?_)
    have hP := rows_setP rfl hP
    have hD := rows_setD rfl hD
    have hP : va_P (dC, dI) vwCl (wd_Pol_update cI cJ cG cZ a0 a1 a0_near a0_nodes a0_factors a0_powers a0_product a1_near a1_tail a1_head r0_near v1_version w0_nodes w0_factors (fillA 13 (0 : Int64) w0_powers) w0_product v1_nodes v1_arcCount v1_version w1_near (gF w0_near ((0 : Int32).toNatClampNeg) (va_cpy w1_near (w0_near ((0 : Int32).toNatClampNeg)) (0 : Int32).toNatClampNeg (0 : Int32).toNatClampNeg (12 : Int32).toNatClampNeg))) H := hP
    have hD : va_D A (wd_Pol_update cI cJ cG cZ a0 a1 a0_near a0_nodes a0_factors a0_powers a0_product a1_near a1_tail a1_head r0_near v1_version w0_nodes w0_factors (fillA 13 (0 : Int64) w0_powers) w0_product v1_nodes v1_arcCount v1_version w1_near (gF w0_near ((0 : Int32).toNatClampNeg) (va_cpy w1_near (w0_near ((0 : Int32).toNatClampNeg)) (0 : Int32).toNatClampNeg (0 : Int32).toNatClampNeg (12 : Int32).toNatClampNeg))) := hD
    refine lv_aload_n hx hb d_Pol_update_45 rfl (lv_at hl 0 rfl) ?_
    refine va_get (D := (dC, dI)) (ci := 3) (v := .ref a0_nodes) (C := R_Pol) (T := T_Pol) (N := 6) hx hb htt hin_Pol hown hK hP 0 rfl rfl 1 (by decide) (htt _ kt_121) (fun _ h9 => h9) rfl d_Pol_update_46 ?_
    refine lv_iconst (v := 0) hx hb d_Pol_update_49 (by decide) ?_
    refine lv_aload_n hx hb d_Pol_update_50 rfl (lv_at hl 1 rfl) ?_
    obtain ⟨q_5, hc_6, hm⟩ := gM_e hm
    have hPc : va_P (dC, dI) vwCl (wd_Net_everyNode cI cJ cG cZ a1 a1_near a1_tail a1_head v1_nodes v1_arcCount v1_version) H := hP.sub [6] rfl
    have hDc : va_D A (wd_Net_everyNode cI cJ cG cZ a1 a1_near a1_tail a1_head v1_nodes v1_arcCount v1_version) := hD.sub [6] (by decide) rfl
    have hFc : ∀ q, va_A (wd_Net_everyNode cI cJ cG cZ a1 a1_near a1_tail a1_head v1_nodes v1_arcCount v1_version) H.size q → A q := va_free hD hS hA [6] rfl
    refine va_calli (va_runV (As := []) (rest := [.int 0, .ref a0_nodes]) ⟨hx, hb, hml, hown, htt⟩ (c_Net_everyNode l dC dI cI cJ cG cZ a1 a1_near a1_tail a1_head H.size F v1_nodes v1_arcCount v1_version q_5 hc_6) (cwV 0 htt (gdV kt_399 kt_400 kt_401 kt_2 kt_402) rfl rfl rfl (by decide +kernel) ⟨(Nat.le_of_ble_eq_true rfl), (Nat.le_of_ble_eq_true rfl)⟩) ⟨PcS_blind, va_recv hK hPc (ci := 1) (q0 := 0) rfl rfl, PcS_in hPc hK hDc hNw⟩ rfl rfl hl.1 rfl (lv_room (Nat.le_of_ble_eq_true rfl)) d_Pol_update_51 ⟨Nat.zero_le _, Nat.zero_le _⟩) hS (fun q _ h => hFc q h) hFc (fun r_7 u t H1 locs ht hvm hw hB hz1 hk1 hS => ?_)
    obtain ⟨hP1, hK1, hD1⟩ := hB
    rw [ht] at hP1
    subst hw
    obtain ⟨hP, hD⟩ := va_joinQ (wr := [(a0, .inr (3, [.ref a0_near, .ref a0_nodes, .ref a0_factors, .ref a0_powers, .ref a0_product, .int v1_version])), (a0_near, .inl (cG, 68, .inr (.inr (.inr (.inr (gO r0_near 68)))))), (a0_nodes, .inl (cI, 68, .inl w0_nodes)), (a0_factors, .inl (cJ, 68, .inr (.inl w0_factors))), (a0_powers, .inl (cJ, 13, .inr (.inl (fillA 13 (0 : Int64) w0_powers)))), (a0_product, .inl (cJ, 13, .inr (.inl w0_product))), (a1_near, .inl (cI, 12, .inl w1_near))]) (w1 := (wd_Net_everyNode cI cJ cG cZ a1 a1_near a1_tail a1_head v1_nodes v1_arcCount v1_version)) hP hD [6] [0, 1, 2, 3, 4, 5, 7] rfl rfl (by decide) (by decide) hk1 hFc hP1 hD1
    have hP : va_P (dC, dI) vwCl (wd_Pol_update cI cJ cG cZ a0 a1 a0_near a0_nodes a0_factors a0_powers a0_product a1_near a1_tail a1_head r0_near v1_version w0_nodes w0_factors (fillA 13 (0 : Int64) w0_powers) w0_product v1_nodes v1_arcCount v1_version w1_near (gF w0_near ((0 : Int32).toNatClampNeg) (va_cpy w1_near (w0_near ((0 : Int32).toNatClampNeg)) (0 : Int32).toNatClampNeg (0 : Int32).toNatClampNeg (12 : Int32).toNatClampNeg))) H1 := hP.part [0, 1, 2, 3, 4, 5, 7, 6] rfl
    have hD : va_D A (wd_Pol_update cI cJ cG cZ a0 a1 a0_near a0_nodes a0_factors a0_powers a0_product a1_near a1_tail a1_head r0_near v1_version w0_nodes w0_factors (fillA 13 (0 : Int64) w0_powers) w0_product v1_nodes v1_arcCount v1_version w1_near (gF w0_near ((0 : Int32).toNatClampNeg) (va_cpy w1_near (w0_near ((0 : Int32).toNatClampNeg)) (0 : Int32).toNatClampNeg (0 : Int32).toNatClampNeg (12 : Int32).toNatClampNeg))) := hD.part [0, 1, 2, 3, 4, 5, 7, 6] (by decide) rfl
    clear hP1 hK1 hD1 hk1 hPc hDc hFc ht hvm hz1
    generalize H1 = H at hP hS ⊢
    obtain ⟨hi_8, hm⟩ := gC_e hm
    refine va_iast hx hb hK hP hD hS 2 0 rfl rfl (inb_vp hi_8) d_Pol_update_54 (fun H locs hP hD hS => ?_)
    have hP : va_P (dC, dI) vwCl (wd_Pol_update cI cJ cG cZ a0 a1 a0_near a0_nodes a0_factors a0_powers a0_product a1_near a1_tail a1_head r0_near v1_version (upd w0_nodes (0 : Int32).toNatClampNeg q_5) w0_factors (fillA 13 (0 : Int64) w0_powers) w0_product v1_nodes v1_arcCount v1_version w1_near (gF w0_near ((0 : Int32).toNatClampNeg) (va_cpy w1_near (w0_near ((0 : Int32).toNatClampNeg)) (0 : Int32).toNatClampNeg (0 : Int32).toNatClampNeg (12 : Int32).toNatClampNeg))) H := hP
    have hD : va_D A (wd_Pol_update cI cJ cG cZ a0 a1 a0_near a0_nodes a0_factors a0_powers a0_product a1_near a1_tail a1_head r0_near v1_version (upd w0_nodes (0 : Int32).toNatClampNeg q_5) w0_factors (fillA 13 (0 : Int64) w0_powers) w0_product v1_nodes v1_arcCount v1_version w1_near (gF w0_near ((0 : Int32).toNatClampNeg) (va_cpy w1_near (w0_near ((0 : Int32).toNatClampNeg)) (0 : Int32).toNatClampNeg (0 : Int32).toNatClampNeg (12 : Int32).toNatClampNeg))) := hD
    refine lv_aload_n hx hb d_Pol_update_55 rfl (lv_at hl 0 rfl) ?_
    refine va_get (D := (dC, dI)) (ci := 3) (v := .ref a0_factors) (C := R_Pol) (T := T_Pol) (N := 6) hx hb htt hin_Pol hown hK hP 0 rfl rfl 2 (by decide) (htt _ kt_122) (fun _ h9 => h9) rfl d_Pol_update_56 ?_
    refine lv_iconst (v := 0) hx hb d_Pol_update_59 (by decide) ?_
    refine lv_lconst (v := 0) hx hb d_Pol_update_60 (by decide) ?_
    obtain ⟨hi_9, hm⟩ := gC_e hm
    refine va_last hx hb hK hP hD hS 3 1 rfl rfl (inb_vp hi_9) d_Pol_update_61 (fun H locs hP hD hS => ?_)
    have hP : va_P (dC, dI) vwCl (wd_Pol_update cI cJ cG cZ a0 a1 a0_near a0_nodes a0_factors a0_powers a0_product a1_near a1_tail a1_head r0_near v1_version (upd w0_nodes (0 : Int32).toNatClampNeg q_5) (vp_updL w0_factors (0 : Int32).toNatClampNeg 0) (fillA 13 (0 : Int64) w0_powers) w0_product v1_nodes v1_arcCount v1_version w1_near (gF w0_near ((0 : Int32).toNatClampNeg) (va_cpy w1_near (w0_near ((0 : Int32).toNatClampNeg)) (0 : Int32).toNatClampNeg (0 : Int32).toNatClampNeg (12 : Int32).toNatClampNeg))) H := hP
    have hD : va_D A (wd_Pol_update cI cJ cG cZ a0 a1 a0_near a0_nodes a0_factors a0_powers a0_product a1_near a1_tail a1_head r0_near v1_version (upd w0_nodes (0 : Int32).toNatClampNeg q_5) (vp_updL w0_factors (0 : Int32).toNatClampNeg 0) (fillA 13 (0 : Int64) w0_powers) w0_product v1_nodes v1_arcCount v1_version w1_near (gF w0_near ((0 : Int32).toNatClampNeg) (va_cpy w1_near (w0_near ((0 : Int32).toNatClampNeg)) (0 : Int32).toNatClampNeg (0 : Int32).toNatClampNeg (12 : Int32).toNatClampNeg))) := hD
    refine lv_iconst (v := 0) hx hb d_Pol_update_62 (by decide) ?_
    refine lv_istore_n (lv' := [(2, .int 0), (0, .ref a0), (1, .ref a1)]) hx hb d_Pol_update_63 rfl hl (by decide) rfl (fun ls hl => ?_)
    refine lv_iconst (v := 0) hx hb d_Pol_update_64 (by decide) ?_
    refine lv_istore_n (lv' := [(3, .int 0), (2, .int 0), (0, .ref a0), (1, .ref a1)]) hx hb d_Pol_update_65 rfl hl (by decide) rfl (fun ls hl => ?_)
    refine gL_e (P := (fun (z_66 : Int32 × Int32 × (Nat → Int32) × (Nat → Int64) × (Nat → Int64) × (Nat → Int64) × (Nat → Nat → Int32)) => ∀ (x2_10 : Int32), ∀ (x3_11 : Int32), ∀ (w0_nodes_12 : Nat → Int32), ∀ (w0_factors_13 : Nat → Int64), ∀ (w0_powers_14 : Nat → Int64), ∀ (w0_product_15 : Nat → Int64), ∀ (w0_near_16 : Nat → Nat → Int32), z_66 = (x2_10, x3_11, w0_nodes_12, w0_factors_13, w0_powers_14, w0_product_15, w0_near_16) → ∀ (ls : Array Slot) (H : Heap) (locs : List Loc), lv_has ls 4 [(0, .ref a0), (2, .int x2_10), (3, .int x3_11)] → va_P (dC, dI) vwCl (wd_Pol_update cI cJ cG cZ a0 a1 a0_near a0_nodes a0_factors a0_powers a0_product a1_near a1_tail a1_head r0_near v1_version w0_nodes_12 w0_factors_13 w0_powers_14 w0_product_15 v1_nodes v1_arcCount v1_version w1_near w0_near_16) H → va_D A (wd_Pol_update cI cJ cG cZ a0 a1 a0_near a0_nodes a0_factors a0_powers a0_product a1_near a1_tail a1_head r0_near v1_version w0_nodes_12 w0_factors_13 w0_powers_14 w0_product_15 v1_nodes v1_arcCount v1_version w1_near w0_near_16) → va_S A s.heap H locs → W p l e (headSpec us_Pol_update rm_Pol_update).room s m ([.ref a0, .ref a1] : List Value).toArray below meth c H locs 0 0 (MQ below (va_Qv (fun (_ : Unit) => True) (fun _ t => PoS (dC, dI) (tyL cI cJ cG cZ) (wd_Pol_update cI cJ cG cZ a0 a1 a0_near a0_nodes a0_factors a0_powers a0_product a1_near a1_tail a1_head r0_near o_v0_versionSeen o_w0_nodes o_w0_factors o_w0_powers o_w0_product v1_nodes v1_arcCount v1_version w1_near o_w0_near) A t) A) ([.ref a0, .ref a1] : List Value).toArray s 0 0 A) (F0 m 66 ls []))) hm (fun k_66 z_66 ih_66 hm => ?_) _ _ _ _ _ _ _ rfl ls H locs (lv_sub hl [2, 1, 0] rfl) hP hD hS
    intro x2_10 x3_11 w0_nodes_12 w0_factors_13 w0_powers_14 w0_product_15 w0_near_16 hz ls H locs hl hP hD hS
    subst hz
    dsimp only at hm
    refine lv_iload_n hx hb d_Pol_update_66 rfl (lv_at hl 2 rfl) ?_
    refine lv_ldc (own := R_Pol) (v := 1000000) hx hb hown (htt _ kt_403) d_Pol_update_67 ?_
    refine lv_icmp_ge (tgt := 128) hx hb d_Pol_update_69 (by decide) (fun c_17 => ?_) (fun c_17 => ?_)
    · have hm := ite_t c_17 hm
      cases hm
      exact W.vret hx hb hr (fun t ht hW => ⟨⟨(), rfl, trivial, by rw [ht]; exact hP, va_K.moved hW.alike hK, hD⟩, hS.F ht⟩) hS.2.2 d_Pol_update_128
    · have hm := ite_f c_17 hm
      refine lv_iload_n hx hb d_Pol_update_72 rfl (lv_at hl 1 rfl) ?_
      refine lv_if_lt (tgt := 128) hx hb d_Pol_update_73 (by decide) (fun c_18 => ?_) (fun c_18 => ?_)
      · have hm := ite_t c_18 hm
        cases hm
        exact W.vret hx hb hr (fun t ht hW => ⟨⟨(), rfl, trivial, by rw [ht]; exact hP, va_K.moved hW.alike hK, hD⟩, hS.F ht⟩) hS.2.2 d_Pol_update_128
      · have hm := ite_f c_18 hm
        refine lv_aload_n hx hb d_Pol_update_76 rfl (lv_at hl 0 rfl) ?_
        refine lv_iload_n hx hb d_Pol_update_77 rfl (lv_at hl 1 rfl) ?_
        obtain ⟨⟨w0_nodes_19, w0_factors_20⟩, hc_21, hm⟩ := gM_e hm
        dsimp only at hm
        have hPc : va_P (dC, dI) vwCl (wd_Pol_takeFactors cI cJ cG cZ a0 a0_near a0_nodes a0_factors a0_powers a0_product r0_near v1_version w0_nodes_12 w0_factors_13 w0_near_16) H := hP.part [0, 1, 2, 3] rfl
        have hDc : va_D A (wd_Pol_takeFactors cI cJ cG cZ a0 a0_near a0_nodes a0_factors a0_powers a0_product r0_near v1_version w0_nodes_12 w0_factors_13 w0_near_16) := hD.part [0, 1, 2, 3] (by decide) rfl
        have hFc : ∀ q, va_A (wd_Pol_takeFactors cI cJ cG cZ a0 a0_near a0_nodes a0_factors a0_powers a0_product r0_near v1_version w0_nodes_12 w0_factors_13 w0_near_16) H.size q → A q := va_freeP hD hS hA [0, 1, 2, 3] rfl
        refine va_callv (va_runV (As := [.int x2_10]) (rest := []) ⟨hx, hb, hml, hown, htt⟩ (c_Pol_takeFactors l dC dI cI cJ cG cZ a0 a0_near a0_nodes a0_factors a0_powers a0_product r0_near H.size F v1_version w0_nodes_12 w0_factors_13 w0_near_16 x2_10 w0_nodes_19 w0_factors_20 hc_21) (cwV 1 htt (gdV kt_404 kt_406 kp_15 kt_4 kt_407) rfl rfl rfl (by decide +kernel) ⟨(Nat.le_of_ble_eq_true rfl), (Nat.le_of_ble_eq_true rfl)⟩) ⟨PcS_blind, va_recv hK hPc (ci := 3) (q0 := 0) rfl rfl, PcS_in hPc hK hDc hNw⟩ rfl rfl hl.1 rfl (lv_room (Nat.le_of_ble_eq_true rfl)) d_Pol_update_78 ⟨Nat.zero_le _, Nat.zero_le _⟩) hS (fun q _ h => hFc q h) hFc (fun u t H1 locs ht hvm hw hB hz1 hk1 hS => ?_)
        obtain ⟨hP1, hK1, hD1⟩ := hB
        rw [ht] at hP1
        obtain ⟨hP, hD⟩ := va_joinP (wr := [(a0_powers, .inl (cJ, 13, .inr (.inl w0_powers_14))), (a0_product, .inl (cJ, 13, .inr (.inl w0_product_15))), (a1, .inr (1, [.ref a1_near, .ref a1_tail, .ref a1_head, .int v1_nodes, .int v1_arcCount, .int v1_version])), (a1_near, .inl (cI, 12, .inl w1_near))]) (rx := (we_Pol_takeFactors cI cJ cG cZ a0 a0_near a0_nodes a0_factors a0_powers a0_product r0_near v1_version w0_nodes_19 w0_factors_20 w0_near_16)) hP hD [0, 1, 2, 3] [4, 5, 6, 7] rfl rfl (by decide) (by decide) hk1 hFc hP1 hD1
        have hP : va_P (dC, dI) vwCl (wd_Pol_update cI cJ cG cZ a0 a1 a0_near a0_nodes a0_factors a0_powers a0_product a1_near a1_tail a1_head r0_near v1_version w0_nodes_19 w0_factors_20 w0_powers_14 w0_product_15 v1_nodes v1_arcCount v1_version w1_near w0_near_16) H1 := hP.part [4, 5, 6, 7, 0, 1, 2, 3] rfl
        have hD : va_D A (wd_Pol_update cI cJ cG cZ a0 a1 a0_near a0_nodes a0_factors a0_powers a0_product a1_near a1_tail a1_head r0_near v1_version w0_nodes_19 w0_factors_20 w0_powers_14 w0_product_15 v1_nodes v1_arcCount v1_version w1_near w0_near_16) := hD.part [4, 5, 6, 7, 0, 1, 2, 3] (by decide) rfl
        clear hP1 hK1 hD1 hk1 hPc hDc hFc ht hvm hz1
        generalize H1 = H at hP hS ⊢
        refine lv_aload_n hx hb d_Pol_update_81 rfl (lv_at hl 0 rfl) ?_
        refine va_get (D := (dC, dI)) (ci := 3) (v := .ref a0_nodes) (C := R_Pol) (T := T_Pol) (N := 6) hx hb htt hin_Pol hown hK hP 0 rfl rfl 1 (by decide) (htt _ kt_121) (fun _ h9 => h9) rfl d_Pol_update_82 ?_
        refine lv_iload_n hx hb d_Pol_update_85 rfl (lv_at hl 1 rfl) ?_
        obtain ⟨hi_23, hm⟩ := gC_e hm
        refine va_iald hx hb hK hP 2 0 rfl rfl (inb_vp hi_23) d_Pol_update_86 ?_
        refine lv_if_ne (tgt := 106) hx hb d_Pol_update_87 (by decide) (fun c_24 => ?_) (fun c_24 => ?_)
        · have hm := ite_f c_24 hm
          refine lv_iload_n hx hb d_Pol_update_106 rfl (lv_at hl 1 rfl) ?_
          refine lv_iconst (v := 1) hx hb d_Pol_update_107 (by decide) ?_
          refine lv_iadd hx hb d_Pol_update_108 ?_
          refine lv_bipush (v := 68) hx hb d_Pol_update_109 (by decide) ?_
          refine lv_icmp_ge (tgt := 122) hx hb d_Pol_update_111 (by decide) (fun c_25 => ?_) (fun c_25 => ?_)
          · have hm := ite_t c_25 hm
            obtain ⟨x3_26, ex3_26⟩ : ∃ y : Int32, y = x3_11 + 1 := ⟨_, rfl⟩
            have hm := gB_at ex3_26 hm
            refine lv_iinc (v := x3_26) (lv' := [(3, .int x3_26), (0, .ref a0), (2, .int x2_10)]) hx hb d_Pol_update_122 hl (k := 2) rfl (by rw [ex3_26]; rfl) (by decide) rfl (fun ls hl => ?_)
            refine lv_goto (tgt := 66) hx hb d_Pol_update_125 (by decide) ?_
            exact ih_66 _ hm _ _ _ _ _ _ _ rfl ls H locs (lv_sub hl [1, 2, 0] rfl) hP hD hS
          · have hm := ite_f c_25 hm
            refine lv_aload_n hx hb d_Pol_update_114 rfl (lv_at hl 0 rfl) ?_
            refine lv_iload_n hx hb d_Pol_update_115 rfl (lv_at hl 1 rfl) ?_
            obtain ⟨⟨w0_nodes_27, w0_factors_28, w0_near_29⟩, hc_30, hm⟩ := gM_e hm
            dsimp only at hm
            have hPc : va_P (dC, dI) vwCl (wd_Pol_splitTop cI cJ cG cZ a0 a0_near a0_nodes a0_factors a0_powers a0_product r0_near v1_version w0_nodes_19 w0_factors_20 w0_near_16) H := hP.part [0, 1, 2, 3] rfl
            have hDc : va_D A (wd_Pol_splitTop cI cJ cG cZ a0 a0_near a0_nodes a0_factors a0_powers a0_product r0_near v1_version w0_nodes_19 w0_factors_20 w0_near_16) := hD.part [0, 1, 2, 3] (by decide) rfl
            have hFc : ∀ q, va_A (wd_Pol_splitTop cI cJ cG cZ a0 a0_near a0_nodes a0_factors a0_powers a0_product r0_near v1_version w0_nodes_19 w0_factors_20 w0_near_16) H.size q → A q := va_freeP hD hS hA [0, 1, 2, 3] rfl
            refine va_callv (va_runV (As := [.int x2_10]) (rest := []) ⟨hx, hb, hml, hown, htt⟩ (c_Pol_splitTop l dC dI cI cJ cG cZ a0 a0_near a0_nodes a0_factors a0_powers a0_product r0_near H.size F v1_version w0_nodes_19 w0_factors_20 w0_near_16 x2_10 w0_nodes_27 w0_factors_28 w0_near_29 hc_30) (cwV 1 htt (gdV kt_417 kt_419 kp_18 kt_4 kt_420) rfl rfl rfl (by decide +kernel) ⟨(Nat.le_of_ble_eq_true rfl), (Nat.le_of_ble_eq_true rfl)⟩) ⟨PcS_blind, va_recv hK hPc (ci := 3) (q0 := 0) rfl rfl, PcS_in hPc hK hDc hNw⟩ rfl rfl hl.1 rfl (lv_room (Nat.le_of_ble_eq_true rfl)) d_Pol_update_116 ⟨Nat.zero_le _, Nat.zero_le _⟩) hS (fun q _ h => hFc q h) hFc (fun u t H1 locs ht hvm hw hB hz1 hk1 hS => ?_)
            obtain ⟨hP1, hK1, hD1⟩ := hB
            rw [ht] at hP1
            obtain ⟨hP, hD⟩ := va_joinP (wr := [(a0_powers, .inl (cJ, 13, .inr (.inl w0_powers_14))), (a0_product, .inl (cJ, 13, .inr (.inl w0_product_15))), (a1, .inr (1, [.ref a1_near, .ref a1_tail, .ref a1_head, .int v1_nodes, .int v1_arcCount, .int v1_version])), (a1_near, .inl (cI, 12, .inl w1_near))]) (rx := (we_Pol_splitTop cI cJ cG cZ a0 a0_near a0_nodes a0_factors a0_powers a0_product r0_near v1_version w0_nodes_27 w0_factors_28 w0_near_29)) hP hD [0, 1, 2, 3] [4, 5, 6, 7] rfl rfl (by decide) (by decide) hk1 hFc hP1 hD1
            have hP : va_P (dC, dI) vwCl (wd_Pol_update cI cJ cG cZ a0 a1 a0_near a0_nodes a0_factors a0_powers a0_product a1_near a1_tail a1_head r0_near v1_version w0_nodes_27 w0_factors_28 w0_powers_14 w0_product_15 v1_nodes v1_arcCount v1_version w1_near w0_near_29) H1 := hP.part [4, 5, 6, 7, 0, 1, 2, 3] rfl
            have hD : va_D A (wd_Pol_update cI cJ cG cZ a0 a1 a0_near a0_nodes a0_factors a0_powers a0_product a1_near a1_tail a1_head r0_near v1_version w0_nodes_27 w0_factors_28 w0_powers_14 w0_product_15 v1_nodes v1_arcCount v1_version w1_near w0_near_29) := hD.part [4, 5, 6, 7, 0, 1, 2, 3] (by decide) rfl
            clear hP1 hK1 hD1 hk1 hPc hDc hFc ht hvm hz1
            generalize H1 = H at hP hS ⊢
            obtain ⟨x2_32, ex2_32⟩ : ∃ y : Int32, y = x2_10 + 1 := ⟨_, rfl⟩
            have hm := gB_at ex2_32 hm
            refine lv_iinc (v := x2_32) (lv' := [(2, .int x2_32), (0, .ref a0), (3, .int x3_11)]) hx hb d_Pol_update_119 hl (k := 1) rfl (by rw [ex2_32]; rfl) (by decide) rfl (fun ls hl => ?_)
            obtain ⟨x3_33, ex3_33⟩ : ∃ y : Int32, y = x3_11 + 1 := ⟨_, rfl⟩
            have hm := gB_at ex3_33 hm
            refine lv_iinc (v := x3_33) (lv' := [(3, .int x3_33), (2, .int x2_32), (0, .ref a0)]) hx hb d_Pol_update_122 hl (k := 2) rfl (by rw [ex3_33]; rfl) (by decide) rfl (fun ls hl => ?_)
            refine lv_goto (tgt := 66) hx hb d_Pol_update_125 (by decide) ?_
            exact ih_66 _ hm _ _ _ _ _ _ _ rfl ls H locs (lv_sub hl [2, 1, 0] rfl) hP hD hS
        · have hm := ite_t c_24 hm
          refine lv_aload_n hx hb d_Pol_update_90 rfl (lv_at hl 0 rfl) ?_
          refine lv_aload_n hx hb d_Pol_update_91 rfl (lv_at hl 0 rfl) ?_
          refine va_get (D := (dC, dI)) (ci := 3) (v := .ref a0_factors) (C := R_Pol) (T := T_Pol) (N := 6) hx hb htt hin_Pol hown hK hP 0 rfl rfl 2 (by decide) (htt _ kt_122) (fun _ h9 => h9) rfl d_Pol_update_92 ?_
          refine lv_iload_n hx hb d_Pol_update_95 rfl (lv_at hl 1 rfl) ?_
          obtain ⟨hi_34, hm⟩ := gC_e hm
          refine va_lald hx hb hK hP 3 1 rfl rfl (inb_vp hi_34) d_Pol_update_96 ?_
          obtain ⟨⟨w0_powers_35, w0_product_36⟩, hc_37, hm⟩ := gM_e hm
          dsimp only at hm
          have hPc : va_P (dC, dI) vwCl (wd_Pol_addProduct cI cJ cG cZ a0 a0_near a0_nodes a0_factors a0_powers a0_product v1_version w0_powers_14 w0_product_15) H := hP.sub [0, 4, 5] rfl
          have hDc : va_D A (wd_Pol_addProduct cI cJ cG cZ a0 a0_near a0_nodes a0_factors a0_powers a0_product v1_version w0_powers_14 w0_product_15) := hD.sub [0, 4, 5] (by decide) rfl
          have hFc : ∀ q, va_A (wd_Pol_addProduct cI cJ cG cZ a0 a0_near a0_nodes a0_factors a0_powers a0_product v1_version w0_powers_14 w0_product_15) H.size q → A q := va_free hD hS hA [0, 4, 5] rfl
          refine va_callv (va_runV (As := [.long (w0_factors_20 x2_10.toNatClampNeg)]) (rest := []) ⟨hx, hb, hml, hown, htt⟩ (c_Pol_addProduct l dC dI cI cJ cG cZ a0 a0_near a0_nodes a0_factors a0_powers a0_product H.size F v1_version w0_powers_14 w0_product_15 (w0_factors_20 x2_10.toNatClampNeg) w0_powers_35 w0_product_36 hc_37) (cwV 1 htt (gdV kt_413 kt_415 kp_17 kt_4 kt_416) rfl rfl rfl (by decide +kernel) ⟨(Nat.le_of_ble_eq_true rfl), (Nat.le_of_ble_eq_true rfl)⟩) ⟨PcS_blind, va_recv hK hPc (ci := 3) (q0 := 0) rfl rfl, PcS_in hPc hK hDc hNw⟩ rfl rfl hl.1 rfl (lv_room (Nat.le_of_ble_eq_true rfl)) d_Pol_update_97 ⟨Nat.zero_le _, Nat.zero_le _⟩) hS (fun q _ h => hFc q h) hFc (fun u t H1 locs ht hvm hw hB hz1 hk1 hS => ?_)
          obtain ⟨hP1, hK1, hD1⟩ := hB
          rw [ht] at hP1
          obtain ⟨hP, hD⟩ := va_joinQ (wr := [(a0_near, .inl (cG, 68, .inr (.inr (.inr (.inr (gO r0_near 68)))))), (a0_nodes, .inl (cI, 68, .inl w0_nodes_19)), (a0_factors, .inl (cJ, 68, .inr (.inl w0_factors_20))), (a1, .inr (1, [.ref a1_near, .ref a1_tail, .ref a1_head, .int v1_nodes, .int v1_arcCount, .int v1_version])), (a1_near, .inl (cI, 12, .inl w1_near))]) (w1 := (wd_Pol_addProduct cI cJ cG cZ a0 a0_near a0_nodes a0_factors a0_powers a0_product v1_version w0_powers_35 w0_product_36)) hP hD [0, 4, 5] [1, 2, 3, 6, 7] rfl rfl (by decide) (by decide) hk1 hFc hP1 hD1
          have hP : va_P (dC, dI) vwCl (wd_Pol_update cI cJ cG cZ a0 a1 a0_near a0_nodes a0_factors a0_powers a0_product a1_near a1_tail a1_head r0_near v1_version w0_nodes_19 w0_factors_20 w0_powers_35 w0_product_36 v1_nodes v1_arcCount v1_version w1_near w0_near_16) H1 := hP.part [5, 0, 1, 2, 6, 7, 3, 4] rfl
          have hD : va_D A (wd_Pol_update cI cJ cG cZ a0 a1 a0_near a0_nodes a0_factors a0_powers a0_product a1_near a1_tail a1_head r0_near v1_version w0_nodes_19 w0_factors_20 w0_powers_35 w0_product_36 v1_nodes v1_arcCount v1_version w1_near w0_near_16) := hD.part [5, 0, 1, 2, 6, 7, 3, 4] (by decide) rfl
          clear hP1 hK1 hD1 hk1 hPc hDc hFc ht hvm hz1
          generalize H1 = H at hP hS ⊢
          obtain ⟨x2_39, ex2_39⟩ : ∃ y : Int32, y = x2_10 + (-1) := ⟨_, rfl⟩
          have hm := gB_at ex2_39 hm
          refine lv_iinc (v := x2_39) (lv' := [(2, .int x2_39), (0, .ref a0), (3, .int x3_11)]) hx hb d_Pol_update_100 hl (k := 1) rfl (by rw [ex2_39]; rfl) (by decide) rfl (fun ls hl => ?_)
          refine lv_goto (tgt := 122) hx hb d_Pol_update_103 (by decide) ?_
          obtain ⟨x3_40, ex3_40⟩ : ∃ y : Int32, y = x3_11 + 1 := ⟨_, rfl⟩
          have hm := gB_at ex3_40 hm
          refine lv_iinc (v := x3_40) (lv' := [(3, .int x3_40), (2, .int x2_39), (0, .ref a0)]) hx hb d_Pol_update_122 hl (k := 2) rfl (by rw [ex3_40]; rfl) (by decide) rfl (fun ls hl => ?_)
          refine lv_goto (tgt := 66) hx hb d_Pol_update_125 (by decide) ?_
          exact ih_66 _ hm _ _ _ _ _ _ _ rfl ls H locs (lv_sub hl [2, 1, 0] rfl) hP hD hS
  · have hm := ite_t c_1 hm
    cases hm
    exact W.vret hx hb hr (fun t ht hW => ⟨⟨(), rfl, trivial, by rw [ht]; exact hP, va_K.moved hW.alike hK, hD⟩, hS.F ht⟩) hS.2.2 d_Pol_update_11
theorem d_Pol_valueAt_0 : decode prog_6_method_2_code 0 = .ok (.aload_n 0, 1) := by decide +kernel
theorem d_Pol_valueAt_1 : decode prog_6_method_2_code 1 = .ok (.aload_n 1, 1) := by decide +kernel
theorem d_Pol_valueAt_2 : decode prog_6_method_2_code 2 = .ok (.invokevirtual 34, 3) := by decide +kernel
theorem d_Pol_valueAt_5 : decode prog_6_method_2_code 5 = .ok (.lconst 0, 1) := by decide +kernel
theorem d_Pol_valueAt_6 : decode prog_6_method_2_code 6 = .ok (.lstore 4, 2) := by decide +kernel
theorem d_Pol_valueAt_8 : decode prog_6_method_2_code 8 = .ok (.aload_n 1, 1) := by decide +kernel
theorem d_Pol_valueAt_9 : decode prog_6_method_2_code 9 = .ok (.getfield 38, 3) := by decide +kernel
theorem d_Pol_valueAt_12 : decode prog_6_method_2_code 12 = .ok (.istore 6, 2) := by decide +kernel
theorem d_Pol_valueAt_14 : decode prog_6_method_2_code 14 = .ok (.iload 6, 2) := by decide +kernel
theorem d_Pol_valueAt_16 : decode prog_6_method_2_code 16 = .ok (.ifCond .lt 23, 3) := by decide +kernel
theorem d_Pol_valueAt_19 : decode prog_6_method_2_code 19 = .ok (.lload 4, 2) := by decide +kernel
theorem d_Pol_valueAt_21 : decode prog_6_method_2_code 21 = .ok (.lload_n 2, 1) := by decide +kernel
theorem d_Pol_valueAt_22 : decode prog_6_method_2_code 22 = .ok (.lmul, 1) := by decide +kernel
theorem d_Pol_valueAt_23 : decode prog_6_method_2_code 23 = .ok (.aload_n 0, 1) := by decide +kernel
theorem d_Pol_valueAt_24 : decode prog_6_method_2_code 24 = .ok (.getfield 24, 3) := by decide +kernel
theorem d_Pol_valueAt_27 : decode prog_6_method_2_code 27 = .ok (.iload 6, 2) := by decide +kernel
theorem d_Pol_valueAt_29 : decode prog_6_method_2_code 29 = .ok (.laload, 1) := by decide +kernel
theorem d_Pol_valueAt_30 : decode prog_6_method_2_code 30 = .ok (.ladd, 1) := by decide +kernel
theorem d_Pol_valueAt_31 : decode prog_6_method_2_code 31 = .ok (.lstore 4, 2) := by decide +kernel
theorem d_Pol_valueAt_33 : decode prog_6_method_2_code 33 = .ok (.iinc 6 (-1), 3) := by decide +kernel
theorem d_Pol_valueAt_36 : decode prog_6_method_2_code 36 = .ok (.goto (-22), 3) := by decide +kernel
theorem d_Pol_valueAt_39 : decode prog_6_method_2_code 39 = .ok (.lload 4, 2) := by decide +kernel
theorem d_Pol_valueAt_41 : decode prog_6_method_2_code 41 = .ok (.lreturn, 1) := by decide +kernel
abbrev wd_Pol_valueAt (cI cJ cG cZ : ClassId) (a0 a1 a0_near a0_nodes a0_factors a0_powers a0_product a1_near a1_tail a1_head : Nat) (r0_near : Nat → Nat) (v0_versionSeen : Int32) (w0_nodes : Nat → Int32) (w0_factors : Nat → Int64) (w0_powers : Nat → Int64) (w0_product : Nat → Int64) (v1_nodes : Int32) (v1_arcCount : Int32) (v1_version : Int32) (w1_near : Nat → Int32) (w0_near : Nat → Nat → Int32) : va_W := [(a0, .inr (3, [.ref a0_near, .ref a0_nodes, .ref a0_factors, .ref a0_powers, .ref a0_product, .int v0_versionSeen])), (a0_near, .inl (cG, 68, .inr (.inr (.inr (.inr (gO r0_near 68)))))), (a0_nodes, .inl (cI, 68, .inl w0_nodes)), (a0_factors, .inl (cJ, 68, .inr (.inl w0_factors))), (a0_powers, .inl (cJ, 13, .inr (.inl w0_powers))), (a0_product, .inl (cJ, 13, .inr (.inl w0_product))), (a1, .inr (1, [.ref a1_near, .ref a1_tail, .ref a1_head, .int v1_nodes, .int v1_arcCount, .int v1_version])), (a1_near, .inl (cI, 12, .inl w1_near))] ++ rowsW r0_near cI 12 68 w0_near
abbrev we_Pol_valueAt (cI cJ cG cZ : ClassId) (a0 a1 a0_near a0_nodes a0_factors a0_powers a0_product a1_near a1_tail a1_head : Nat) (r0_near : Nat → Nat) (v0_versionSeen : Int32) (w0_nodes : Nat → Int32) (w0_factors : Nat → Int64) (w0_powers : Nat → Int64) (w0_product : Nat → Int64) (v1_nodes : Int32) (v1_arcCount : Int32) (v1_version : Int32) (w1_near : Nat → Int32) (w0_near : Nat → Nat → Int32) : va_W := [(a0, .inr (3, [.ref a0_near, .ref a0_nodes, .ref a0_factors, .ref a0_powers, .ref a0_product, .int v0_versionSeen])), (a0_near, .inl (cG, 68, .inr (.inr (.inr (.inr (gO r0_near 68)))))), (a0_nodes, .inl (cI, 68, .inl w0_nodes)), (a0_factors, .inl (cJ, 68, .inr (.inl w0_factors))), (a0_powers, .inl (cJ, 13, .inr (.inl w0_powers))), (a0_product, .inl (cJ, 13, .inr (.inl w0_product))), (a1, .inr (1, [.ref a1_near, .ref a1_tail, .ref a1_head, .int v1_nodes, .int v1_arcCount, .int v1_version])), (a1_near, .inl (cI, 12, .inl w1_near))]
abbrev us_Pol_valueAt : List Cond := .code y_Pol_valueAt prog_6_method_2_code 7 (some .long) :: gtbl
abbrev rm_Pol_valueAt : Room := { frames := 4, cells := 0, slots := 0, locals := 94 }
def m_Pol_valueAt (F : Nat) (v0_versionSeen : Int32) (w0_nodes : Nat → Int32) (w0_factors : Nat → Int64) (w0_powers : Nat → Int64) (w0_product : Nat → Int64) (v1_nodes : Int32) (v1_arcCount : Int32) (v1_version : Int32) (w1_near : Nat → Int32) (w0_near : Nat → Nat → Int32) (p2 : Int64) : Option (Int64 × Int32 × (Nat → Int32) × (Nat → Int64) × (Nat → Int64) × (Nat → Int64) × (Nat → Nat → Int32)) :=
  gM (m_Pol_update F v0_versionSeen w0_nodes w0_factors w0_powers w0_product v1_nodes v1_arcCount v1_version w1_near w0_near) (fun (z_8 : Int32 × (Nat → Int32) × (Nat → Int64) × (Nat → Int64) × (Nat → Int64) × (Nat → Nat → Int32)) => match z_8 with
  | (v0_versionSeen_1, w0_nodes_2, w0_factors_3, w0_powers_4, w0_product_5, w0_near_6) =>
  gL (fun (k_14 : (Int64 × Int32) → Option (Int64 × Int32 × (Nat → Int32) × (Nat → Int64) × (Nat → Int64) × (Nat → Int64) × (Nat → Nat → Int32))) (z_14 : Int64 × Int32) => match z_14 with
  | (x4_9, x6_10) =>
  if x6_10 < 0 then (
    some (x4_9, v0_versionSeen_1, w0_nodes_2, w0_factors_3, w0_powers_4, w0_product_5, w0_near_6)
  ) else (
    gC (inb x6_10 13) (
    gB ((x4_9 * p2) + (w0_powers_4 x6_10.toNatClampNeg)) (fun x4_13 =>
    gB (x6_10 + (-1)) (fun x6_14 =>
    k_14 (x4_13, x6_14))))
  )
  ) F (0, v1_nodes))
set_option maxHeartbeats 4000000 in
set_option maxRecDepth 100000 in
theorem c_Pol_valueAt (l : Launch) (dC : Nat → ClassId) (dI : Nat → Nat → Nat) (cI cJ cG cZ : ClassId) (a0 a1 a0_near a0_nodes a0_factors a0_powers a0_product a1_near a1_tail a1_head : Nat) (r0_near : Nat → Nat) (sz : Nat) (F : Nat) (v0_versionSeen : Int32) (w0_nodes : Nat → Int32) (w0_factors : Nat → Int64) (w0_powers : Nat → Int64) (w0_product : Nat → Int64) (v1_nodes : Int32) (v1_arcCount : Int32) (v1_version : Int32) (w1_near : Nat → Int32) (w0_near : Nat → Nat → Int32) (p2 : Int64) (ret : Int64) (o_v0_versionSeen : Int32) (o_w0_nodes : Nat → Int32) (o_w0_factors : Nat → Int64) (o_w0_powers : Nat → Int64) (o_w0_product : Nat → Int64) (o_w0_near : Nat → Nat → Int32) (hm : m_Pol_valueAt F v0_versionSeen w0_nodes w0_factors w0_powers w0_product v1_nodes v1_arcCount v1_version w1_near w0_near p2 = some (ret, o_v0_versionSeen, o_w0_nodes, o_w0_factors, o_w0_powers, o_w0_product, o_w0_near)) : Met l y_Pol_valueAt us_Pol_valueAt rm_Pol_valueAt (PcS (dC, dI) (tyL cI cJ cG cZ) [.ref a0, .ref a1, .long p2] sz (wd_Pol_valueAt cI cJ cG cZ a0 a1 a0_near a0_nodes a0_factors a0_powers a0_product a1_near a1_tail a1_head r0_near v0_versionSeen w0_nodes w0_factors w0_powers w0_product v1_nodes v1_arcCount v1_version w1_near w0_near)) (va_Ql (fun (r : Int64) (_ : Unit) => ret = r) (fun _ t => PoS (dC, dI) (tyL cI cJ cG cZ) (wd_Pol_valueAt cI cJ cG cZ a0 a1 a0_near a0_nodes a0_factors a0_powers a0_product a1_near a1_tail a1_head r0_near o_v0_versionSeen o_w0_nodes o_w0_factors o_w0_powers o_w0_product v1_nodes v1_arcCount v1_version w1_near o_w0_near) (va_A (wd_Pol_valueAt cI cJ cG cZ a0 a1 a0_near a0_nodes a0_factors a0_powers a0_product a1_near a1_tail a1_head r0_near v0_versionSeen w0_nodes w0_factors w0_powers w0_product v1_nodes v1_arcCount v1_version w1_near w0_near) sz) t) (va_A (wd_Pol_valueAt cI cJ cG cZ a0 a1 a0_near a0_nodes a0_factors a0_powers a0_product a1_near a1_tail a1_head r0_near v0_versionSeen w0_nodes w0_factors w0_powers w0_product v1_nodes v1_arcCount v1_version w1_near w0_near) sz)) 0 0 (va_A (wd_Pol_valueAt cI cJ cG cZ a0 a1 a0_near a0_nodes a0_factors a0_powers a0_product a1_near a1_tail a1_head r0_near v0_versionSeen w0_nodes w0_factors w0_powers w0_product v1_nodes v1_arcCount v1_version w1_near w0_near) sz) := by
  refine Met.ofW (cc := prog_6_method_2_code) (maxL := 7) (ret := (some .long)) (by decide) rfl ?_
  intro p e s m args below meth c s₁ B hml hv
  obtain ⟨rfl, hsz, hP, hK, hD0, hNw⟩ := hv
  have hx := B.exec
  have hb := B.bytes
  have hr := B.returns
  have htt : ∀ w ∈ gtbl, w.before _ s = true := fun w h => atoms_spec (ws := us_Pol_valueAt) B.pre w (List.mem_cons_of_mem _ h)
  have hown : s.vm.findClass R_Pol = some m.cls := findClass_of_methodNamed B.named
  have hlocks := B.notSynchronized
  subst hsz
  have hD := hD0.self (sz := s.heap.size)
  generalize hAe : va_A (wd_Pol_valueAt cI cJ cG cZ a0 a1 a0_near a0_nodes a0_factors a0_powers a0_product a1_near a1_tail a1_head r0_near v0_versionSeen w0_nodes w0_factors w0_powers w0_product v1_nodes v1_arcCount v1_version w1_near w0_near) s.heap.size = A at hD ⊢
  have hA : ∀ q : Nat, s.heap.size ≤ q → A q := fun q h => by rw [← hAe]; exact Or.inr h
  clear hAe hD0
  have hS : va_S A s.heap s.heap [] := va_S.rf
  have hl := lv_entry ([.ref a0, .ref a1, .long p2]) (n := 7) (Nat.le_of_ble_eq_true rfl)
  rw [lg_entry_eq]
  generalize (lg_sl ([.ref a0, .ref a1, .long p2]) ++ List.replicate (7 - (lg_sl ([.ref a0, .ref a1, .long p2])).length) Slot.unset).toArray = ls at hl ⊢
  have hl : lv_has ls 7 [(0, .ref a0), (1, .ref a1), (2, .long p2)] := hl
  generalize hH : s.heap = H at hP ⊢
  have hS : va_S A s.heap H [] := hH ▸ hS
  generalize hLo : ([] : List Loc) = locs at hS ⊢
  clear hH hLo
  unfold m_Pol_valueAt at hm
  refine lv_aload_n hx hb d_Pol_valueAt_0 rfl (lv_at hl 0 rfl) ?_
  refine lv_aload_n hx hb d_Pol_valueAt_1 rfl (lv_at hl 1 rfl) ?_
  obtain ⟨⟨v0_versionSeen_1, w0_nodes_2, w0_factors_3, w0_powers_4, w0_product_5, w0_near_6⟩, hc_7, hm⟩ := gM_e hm
  dsimp only at hm
  have hPc : va_P (dC, dI) vwCl (wd_Pol_update cI cJ cG cZ a0 a1 a0_near a0_nodes a0_factors a0_powers a0_product a1_near a1_tail a1_head r0_near v0_versionSeen w0_nodes w0_factors w0_powers w0_product v1_nodes v1_arcCount v1_version w1_near w0_near) H := hP.part [0, 1, 2, 3, 4, 5, 6, 7] rfl
  have hDc : va_D A (wd_Pol_update cI cJ cG cZ a0 a1 a0_near a0_nodes a0_factors a0_powers a0_product a1_near a1_tail a1_head r0_near v0_versionSeen w0_nodes w0_factors w0_powers w0_product v1_nodes v1_arcCount v1_version w1_near w0_near) := hD.part [0, 1, 2, 3, 4, 5, 6, 7] (by decide) rfl
  have hFc : ∀ q, va_A (wd_Pol_update cI cJ cG cZ a0 a1 a0_near a0_nodes a0_factors a0_powers a0_product a1_near a1_tail a1_head r0_near v0_versionSeen w0_nodes w0_factors w0_powers w0_product v1_nodes v1_arcCount v1_version w1_near w0_near) H.size q → A q := va_freeP hD hS hA [0, 1, 2, 3, 4, 5, 6, 7] rfl
  refine va_callv (va_runV (As := [.ref a1]) (rest := []) ⟨hx, hb, hml, hown, htt⟩ (c_Pol_update l dC dI cI cJ cG cZ a0 a1 a0_near a0_nodes a0_factors a0_powers a0_product a1_near a1_tail a1_head r0_near H.size F v0_versionSeen w0_nodes w0_factors w0_powers w0_product v1_nodes v1_arcCount v1_version w1_near w0_near v0_versionSeen_1 w0_nodes_2 w0_factors_3 w0_powers_4 w0_product_5 w0_near_6 hc_7) (cwV 1 htt (gdV kt_391 kt_393 kp_14 kt_4 kt_394) rfl rfl rfl (by decide +kernel) ⟨(Nat.le_of_ble_eq_true rfl), (Nat.le_of_ble_eq_true rfl)⟩) ⟨PcS_blind, va_recv hK hPc (ci := 3) (q0 := 0) rfl rfl, PcS_in hPc hK hDc hNw⟩ rfl rfl hl.1 rfl (lv_room (Nat.le_of_ble_eq_true rfl)) d_Pol_valueAt_2 ⟨Nat.zero_le _, Nat.zero_le _⟩) hS (fun q _ h => hFc q h) hFc (fun u t H1 locs ht hvm hw hB hz1 hk1 hS => ?_)
  obtain ⟨hP1, hK1, hD1⟩ := hB
  rw [ht] at hP1
  obtain ⟨hP, hD⟩ := va_joinP (wr := []) (rx := (we_Pol_update cI cJ cG cZ a0 a1 a0_near a0_nodes a0_factors a0_powers a0_product a1_near a1_tail a1_head r0_near v0_versionSeen_1 w0_nodes_2 w0_factors_3 w0_powers_4 w0_product_5 v1_nodes v1_arcCount v1_version w1_near w0_near_6)) hP hD [0, 1, 2, 3, 4, 5, 6, 7] [] rfl rfl (by decide) (by decide) hk1 hFc hP1 hD1
  have hP : va_P (dC, dI) vwCl (wd_Pol_valueAt cI cJ cG cZ a0 a1 a0_near a0_nodes a0_factors a0_powers a0_product a1_near a1_tail a1_head r0_near v0_versionSeen_1 w0_nodes_2 w0_factors_3 w0_powers_4 w0_product_5 v1_nodes v1_arcCount v1_version w1_near w0_near_6) H1 := hP.part [0, 1, 2, 3, 4, 5, 6, 7] rfl
  have hD : va_D A (wd_Pol_valueAt cI cJ cG cZ a0 a1 a0_near a0_nodes a0_factors a0_powers a0_product a1_near a1_tail a1_head r0_near v0_versionSeen_1 w0_nodes_2 w0_factors_3 w0_powers_4 w0_product_5 v1_nodes v1_arcCount v1_version w1_near w0_near_6) := hD.part [0, 1, 2, 3, 4, 5, 6, 7] (by decide) rfl
  clear hP1 hK1 hD1 hk1 hPc hDc hFc ht hvm hz1
  generalize H1 = H at hP hS ⊢
  refine lv_lconst (v := 0) hx hb d_Pol_valueAt_5 (by decide) ?_
  refine lv_lstore (lv' := [(4, .long 0), (0, .ref a0), (1, .ref a1), (2, .long p2)]) hx hb d_Pol_valueAt_6 hl (by decide) rfl (fun ls hl => ?_)
  refine lv_aload_n hx hb d_Pol_valueAt_8 rfl (lv_at hl 2 rfl) ?_
  refine va_get (D := (dC, dI)) (ci := 1) (v := .int v1_nodes) (C := R_Net) (T := T_Net) (N := 6) hx hb htt hin_Net hown hK hP 6 rfl rfl 3 (by decide) (htt _ kt_49) (fun _ h9 => h9) rfl d_Pol_valueAt_9 ?_
  refine lv_istore (lv' := [(6, .int v1_nodes), (4, .long 0), (0, .ref a0), (1, .ref a1), (2, .long p2)]) hx hb d_Pol_valueAt_12 hl (by decide) rfl (fun ls hl => ?_)
  refine gL_e (P := (fun (z_14 : Int64 × Int32) => ∀ (x4_9 : Int64), ∀ (x6_10 : Int32), z_14 = (x4_9, x6_10) → ∀ (ls : Array Slot) (H : Heap) (locs : List Loc), lv_has ls 7 [(0, .ref a0), (2, .long p2), (4, .long x4_9), (6, .int x6_10)] → va_P (dC, dI) vwCl (wd_Pol_valueAt cI cJ cG cZ a0 a1 a0_near a0_nodes a0_factors a0_powers a0_product a1_near a1_tail a1_head r0_near v0_versionSeen_1 w0_nodes_2 w0_factors_3 w0_powers_4 w0_product_5 v1_nodes v1_arcCount v1_version w1_near w0_near_6) H → va_D A (wd_Pol_valueAt cI cJ cG cZ a0 a1 a0_near a0_nodes a0_factors a0_powers a0_product a1_near a1_tail a1_head r0_near v0_versionSeen_1 w0_nodes_2 w0_factors_3 w0_powers_4 w0_product_5 v1_nodes v1_arcCount v1_version w1_near w0_near_6) → va_S A s.heap H locs → W p l e (headSpec us_Pol_valueAt rm_Pol_valueAt).room s m ([.ref a0, .ref a1, .long p2] : List Value).toArray below meth c H locs 0 0 (MQ below (va_Ql (fun (r : Int64) (_ : Unit) => ret = r) (fun _ t => PoS (dC, dI) (tyL cI cJ cG cZ) (wd_Pol_valueAt cI cJ cG cZ a0 a1 a0_near a0_nodes a0_factors a0_powers a0_product a1_near a1_tail a1_head r0_near o_v0_versionSeen o_w0_nodes o_w0_factors o_w0_powers o_w0_product v1_nodes v1_arcCount v1_version w1_near o_w0_near) A t) A) ([.ref a0, .ref a1, .long p2] : List Value).toArray s 0 0 A) (F0 m 14 ls []))) hm (fun k_14 z_14 ih_14 hm => ?_) _ _ rfl ls H locs (lv_sub hl [2, 4, 1, 0] rfl) hP hD hS
  intro x4_9 x6_10 hz ls H locs hl hP hD hS
  subst hz
  dsimp only at hm
  refine lv_iload hx hb d_Pol_valueAt_14 (lv_at hl 3 rfl) ?_
  refine lv_if_lt (tgt := 39) hx hb d_Pol_valueAt_16 (by decide) (fun c_11 => ?_) (fun c_11 => ?_)
  · have hm := ite_t c_11 hm
    refine lv_lload hx hb d_Pol_valueAt_39 (lv_at hl 2 rfl) ?_
    cases hm
    exact W.lret hx hb hr (fun t ht hW => ⟨⟨_, (), rfl, rfl, by rw [ht]; exact hP, va_K.moved hW.alike hK, hD⟩, hS.F ht⟩) hS.2.2 d_Pol_valueAt_41
  · have hm := ite_f c_11 hm
    refine lv_lload hx hb d_Pol_valueAt_19 (lv_at hl 2 rfl) ?_
    refine lv_lload_n hx hb d_Pol_valueAt_21 rfl (lv_at hl 1 rfl) ?_
    refine lv_lmul hx hb d_Pol_valueAt_22 ?_
    refine lv_aload_n hx hb d_Pol_valueAt_23 rfl (lv_at hl 0 rfl) ?_
    refine va_get (D := (dC, dI)) (ci := 3) (v := .ref a0_powers) (C := R_Pol) (T := T_Pol) (N := 6) hx hb htt hin_Pol hown hK hP 0 rfl rfl 3 (by decide) (htt _ kt_123) (fun _ h9 => h9) rfl d_Pol_valueAt_24 ?_
    refine lv_iload hx hb d_Pol_valueAt_27 (lv_at hl 3 rfl) ?_
    obtain ⟨hi_12, hm⟩ := gC_e hm
    refine va_lald hx hb hK hP 4 1 rfl rfl (inb_vp hi_12) d_Pol_valueAt_29 ?_
    refine lv_ladd hx hb d_Pol_valueAt_30 ?_
    refine lv_topl (fun x4_13 ex4_13 => ?_)
    have hm := gB_at ex4_13 hm
    refine lv_lstore (lv' := [(4, .long x4_13), (0, .ref a0), (2, .long p2), (6, .int x6_10)]) hx hb d_Pol_valueAt_31 hl (by decide) rfl (fun ls hl => ?_)
    obtain ⟨x6_14, ex6_14⟩ : ∃ y : Int32, y = x6_10 + (-1) := ⟨_, rfl⟩
    have hm := gB_at ex6_14 hm
    refine lv_iinc (v := x6_14) (lv' := [(6, .int x6_14), (4, .long x4_13), (0, .ref a0), (2, .long p2)]) hx hb d_Pol_valueAt_33 hl (k := 3) rfl (by rw [ex6_14]; rfl) (by decide) rfl (fun ls hl => ?_)
    refine lv_goto (tgt := 14) hx hb d_Pol_valueAt_36 (by decide) ?_
    exact ih_14 _ hm _ _ rfl ls H locs (lv_sub hl [2, 3, 1, 0] rfl) hP hD hS
theorem d_Pol_atPower_0 : decode prog_6_method_3_code 0 = .ok (.aload_n 0, 1) := by decide +kernel
theorem d_Pol_atPower_1 : decode prog_6_method_3_code 1 = .ok (.aload_n 1, 1) := by decide +kernel
theorem d_Pol_atPower_2 : decode prog_6_method_3_code 2 = .ok (.invokevirtual 34, 3) := by decide +kernel
theorem d_Pol_atPower_5 : decode prog_6_method_3_code 5 = .ok (.iload_n 2, 1) := by decide +kernel
theorem d_Pol_atPower_6 : decode prog_6_method_3_code 6 = .ok (.ifCond .lt 20, 3) := by decide +kernel
theorem d_Pol_atPower_9 : decode prog_6_method_3_code 9 = .ok (.iload_n 2, 1) := by decide +kernel
theorem d_Pol_atPower_10 : decode prog_6_method_3_code 10 = .ok (.aload_n 1, 1) := by decide +kernel
theorem d_Pol_atPower_11 : decode prog_6_method_3_code 11 = .ok (.getfield 38, 3) := by decide +kernel
theorem d_Pol_atPower_14 : decode prog_6_method_3_code 14 = .ok (.if_icmp .gt 12, 3) := by decide +kernel
theorem d_Pol_atPower_17 : decode prog_6_method_3_code 17 = .ok (.aload_n 0, 1) := by decide +kernel
theorem d_Pol_atPower_18 : decode prog_6_method_3_code 18 = .ok (.getfield 24, 3) := by decide +kernel
theorem d_Pol_atPower_21 : decode prog_6_method_3_code 21 = .ok (.iload_n 2, 1) := by decide +kernel
theorem d_Pol_atPower_22 : decode prog_6_method_3_code 22 = .ok (.laload, 1) := by decide +kernel
theorem d_Pol_atPower_23 : decode prog_6_method_3_code 23 = .ok (.goto 4, 3) := by decide +kernel
theorem d_Pol_atPower_26 : decode prog_6_method_3_code 26 = .ok (.lconst 0, 1) := by decide +kernel
theorem d_Pol_atPower_27 : decode prog_6_method_3_code 27 = .ok (.lreturn, 1) := by decide +kernel
abbrev wd_Pol_atPower (cI cJ cG cZ : ClassId) (a0 a1 a0_near a0_nodes a0_factors a0_powers a0_product a1_near a1_tail a1_head : Nat) (r0_near : Nat → Nat) (v0_versionSeen : Int32) (w0_nodes : Nat → Int32) (w0_factors : Nat → Int64) (w0_powers : Nat → Int64) (w0_product : Nat → Int64) (v1_nodes : Int32) (v1_arcCount : Int32) (v1_version : Int32) (w1_near : Nat → Int32) (w0_near : Nat → Nat → Int32) : va_W := [(a0, .inr (3, [.ref a0_near, .ref a0_nodes, .ref a0_factors, .ref a0_powers, .ref a0_product, .int v0_versionSeen])), (a0_near, .inl (cG, 68, .inr (.inr (.inr (.inr (gO r0_near 68)))))), (a0_nodes, .inl (cI, 68, .inl w0_nodes)), (a0_factors, .inl (cJ, 68, .inr (.inl w0_factors))), (a0_powers, .inl (cJ, 13, .inr (.inl w0_powers))), (a0_product, .inl (cJ, 13, .inr (.inl w0_product))), (a1, .inr (1, [.ref a1_near, .ref a1_tail, .ref a1_head, .int v1_nodes, .int v1_arcCount, .int v1_version])), (a1_near, .inl (cI, 12, .inl w1_near))] ++ rowsW r0_near cI 12 68 w0_near
abbrev we_Pol_atPower (cI cJ cG cZ : ClassId) (a0 a1 a0_near a0_nodes a0_factors a0_powers a0_product a1_near a1_tail a1_head : Nat) (r0_near : Nat → Nat) (v0_versionSeen : Int32) (w0_nodes : Nat → Int32) (w0_factors : Nat → Int64) (w0_powers : Nat → Int64) (w0_product : Nat → Int64) (v1_nodes : Int32) (v1_arcCount : Int32) (v1_version : Int32) (w1_near : Nat → Int32) (w0_near : Nat → Nat → Int32) : va_W := [(a0, .inr (3, [.ref a0_near, .ref a0_nodes, .ref a0_factors, .ref a0_powers, .ref a0_product, .int v0_versionSeen])), (a0_near, .inl (cG, 68, .inr (.inr (.inr (.inr (gO r0_near 68)))))), (a0_nodes, .inl (cI, 68, .inl w0_nodes)), (a0_factors, .inl (cJ, 68, .inr (.inl w0_factors))), (a0_powers, .inl (cJ, 13, .inr (.inl w0_powers))), (a0_product, .inl (cJ, 13, .inr (.inl w0_product))), (a1, .inr (1, [.ref a1_near, .ref a1_tail, .ref a1_head, .int v1_nodes, .int v1_arcCount, .int v1_version])), (a1_near, .inl (cI, 12, .inl w1_near))]
abbrev us_Pol_atPower : List Cond := .code y_Pol_atPower prog_6_method_3_code 3 (some .long) :: gtbl
abbrev rm_Pol_atPower : Room := { frames := 4, cells := 0, slots := 0, locals := 94 }
def m_Pol_atPower (F : Nat) (v0_versionSeen : Int32) (w0_nodes : Nat → Int32) (w0_factors : Nat → Int64) (w0_powers : Nat → Int64) (w0_product : Nat → Int64) (v1_nodes : Int32) (v1_arcCount : Int32) (v1_version : Int32) (w1_near : Nat → Int32) (w0_near : Nat → Nat → Int32) (p2 : Int32) : Option (Int64 × Int32 × (Nat → Int32) × (Nat → Int64) × (Nat → Int64) × (Nat → Int64) × (Nat → Nat → Int32)) :=
  gM (m_Pol_update F v0_versionSeen w0_nodes w0_factors w0_powers w0_product v1_nodes v1_arcCount v1_version w1_near w0_near) (fun (z_8 : Int32 × (Nat → Int32) × (Nat → Int64) × (Nat → Int64) × (Nat → Int64) × (Nat → Nat → Int32)) => match z_8 with
  | (v0_versionSeen_1, w0_nodes_2, w0_factors_3, w0_powers_4, w0_product_5, w0_near_6) =>
  if p2 < 0 then (
    some (0, v0_versionSeen_1, w0_nodes_2, w0_factors_3, w0_powers_4, w0_product_5, w0_near_6)
  ) else (
    if v1_nodes < p2 then (
      some (0, v0_versionSeen_1, w0_nodes_2, w0_factors_3, w0_powers_4, w0_product_5, w0_near_6)
    ) else (
      gC (inb p2 13) (
      some (w0_powers_4 p2.toNatClampNeg, v0_versionSeen_1, w0_nodes_2, w0_factors_3, w0_powers_4, w0_product_5, w0_near_6))
    )
  ))
set_option maxHeartbeats 4000000 in
set_option maxRecDepth 100000 in
theorem c_Pol_atPower (l : Launch) (dC : Nat → ClassId) (dI : Nat → Nat → Nat) (cI cJ cG cZ : ClassId) (a0 a1 a0_near a0_nodes a0_factors a0_powers a0_product a1_near a1_tail a1_head : Nat) (r0_near : Nat → Nat) (sz : Nat) (F : Nat) (v0_versionSeen : Int32) (w0_nodes : Nat → Int32) (w0_factors : Nat → Int64) (w0_powers : Nat → Int64) (w0_product : Nat → Int64) (v1_nodes : Int32) (v1_arcCount : Int32) (v1_version : Int32) (w1_near : Nat → Int32) (w0_near : Nat → Nat → Int32) (p2 : Int32) (ret : Int64) (o_v0_versionSeen : Int32) (o_w0_nodes : Nat → Int32) (o_w0_factors : Nat → Int64) (o_w0_powers : Nat → Int64) (o_w0_product : Nat → Int64) (o_w0_near : Nat → Nat → Int32) (hm : m_Pol_atPower F v0_versionSeen w0_nodes w0_factors w0_powers w0_product v1_nodes v1_arcCount v1_version w1_near w0_near p2 = some (ret, o_v0_versionSeen, o_w0_nodes, o_w0_factors, o_w0_powers, o_w0_product, o_w0_near)) : Met l y_Pol_atPower us_Pol_atPower rm_Pol_atPower (PcS (dC, dI) (tyL cI cJ cG cZ) [.ref a0, .ref a1, .int p2] sz (wd_Pol_atPower cI cJ cG cZ a0 a1 a0_near a0_nodes a0_factors a0_powers a0_product a1_near a1_tail a1_head r0_near v0_versionSeen w0_nodes w0_factors w0_powers w0_product v1_nodes v1_arcCount v1_version w1_near w0_near)) (va_Ql (fun (r : Int64) (_ : Unit) => ret = r) (fun _ t => PoS (dC, dI) (tyL cI cJ cG cZ) (wd_Pol_atPower cI cJ cG cZ a0 a1 a0_near a0_nodes a0_factors a0_powers a0_product a1_near a1_tail a1_head r0_near o_v0_versionSeen o_w0_nodes o_w0_factors o_w0_powers o_w0_product v1_nodes v1_arcCount v1_version w1_near o_w0_near) (va_A (wd_Pol_atPower cI cJ cG cZ a0 a1 a0_near a0_nodes a0_factors a0_powers a0_product a1_near a1_tail a1_head r0_near v0_versionSeen w0_nodes w0_factors w0_powers w0_product v1_nodes v1_arcCount v1_version w1_near w0_near) sz) t) (va_A (wd_Pol_atPower cI cJ cG cZ a0 a1 a0_near a0_nodes a0_factors a0_powers a0_product a1_near a1_tail a1_head r0_near v0_versionSeen w0_nodes w0_factors w0_powers w0_product v1_nodes v1_arcCount v1_version w1_near w0_near) sz)) 0 0 (va_A (wd_Pol_atPower cI cJ cG cZ a0 a1 a0_near a0_nodes a0_factors a0_powers a0_product a1_near a1_tail a1_head r0_near v0_versionSeen w0_nodes w0_factors w0_powers w0_product v1_nodes v1_arcCount v1_version w1_near w0_near) sz) := by
  refine Met.ofW (cc := prog_6_method_3_code) (maxL := 3) (ret := (some .long)) (by decide) rfl ?_
  intro p e s m args below meth c s₁ B hml hv
  obtain ⟨rfl, hsz, hP, hK, hD0, hNw⟩ := hv
  have hx := B.exec
  have hb := B.bytes
  have hr := B.returns
  have htt : ∀ w ∈ gtbl, w.before _ s = true := fun w h => atoms_spec (ws := us_Pol_atPower) B.pre w (List.mem_cons_of_mem _ h)
  have hown : s.vm.findClass R_Pol = some m.cls := findClass_of_methodNamed B.named
  have hlocks := B.notSynchronized
  subst hsz
  have hD := hD0.self (sz := s.heap.size)
  generalize hAe : va_A (wd_Pol_atPower cI cJ cG cZ a0 a1 a0_near a0_nodes a0_factors a0_powers a0_product a1_near a1_tail a1_head r0_near v0_versionSeen w0_nodes w0_factors w0_powers w0_product v1_nodes v1_arcCount v1_version w1_near w0_near) s.heap.size = A at hD ⊢
  have hA : ∀ q : Nat, s.heap.size ≤ q → A q := fun q h => by rw [← hAe]; exact Or.inr h
  clear hAe hD0
  have hS : va_S A s.heap s.heap [] := va_S.rf
  have hl := lv_entry ([.ref a0, .ref a1, .int p2]) (n := 3) (Nat.le_of_ble_eq_true rfl)
  rw [lg_entry_eq]
  generalize (lg_sl ([.ref a0, .ref a1, .int p2]) ++ List.replicate (3 - (lg_sl ([.ref a0, .ref a1, .int p2])).length) Slot.unset).toArray = ls at hl ⊢
  have hl : lv_has ls 3 [(0, .ref a0), (1, .ref a1), (2, .int p2)] := hl
  generalize hH : s.heap = H at hP ⊢
  have hS : va_S A s.heap H [] := hH ▸ hS
  generalize hLo : ([] : List Loc) = locs at hS ⊢
  clear hH hLo
  unfold m_Pol_atPower at hm
  refine lv_aload_n hx hb d_Pol_atPower_0 rfl (lv_at hl 0 rfl) ?_
  refine lv_aload_n hx hb d_Pol_atPower_1 rfl (lv_at hl 1 rfl) ?_
  obtain ⟨⟨v0_versionSeen_1, w0_nodes_2, w0_factors_3, w0_powers_4, w0_product_5, w0_near_6⟩, hc_7, hm⟩ := gM_e hm
  dsimp only at hm
  have hPc : va_P (dC, dI) vwCl (wd_Pol_update cI cJ cG cZ a0 a1 a0_near a0_nodes a0_factors a0_powers a0_product a1_near a1_tail a1_head r0_near v0_versionSeen w0_nodes w0_factors w0_powers w0_product v1_nodes v1_arcCount v1_version w1_near w0_near) H := hP.part [0, 1, 2, 3, 4, 5, 6, 7] rfl
  have hDc : va_D A (wd_Pol_update cI cJ cG cZ a0 a1 a0_near a0_nodes a0_factors a0_powers a0_product a1_near a1_tail a1_head r0_near v0_versionSeen w0_nodes w0_factors w0_powers w0_product v1_nodes v1_arcCount v1_version w1_near w0_near) := hD.part [0, 1, 2, 3, 4, 5, 6, 7] (by decide) rfl
  have hFc : ∀ q, va_A (wd_Pol_update cI cJ cG cZ a0 a1 a0_near a0_nodes a0_factors a0_powers a0_product a1_near a1_tail a1_head r0_near v0_versionSeen w0_nodes w0_factors w0_powers w0_product v1_nodes v1_arcCount v1_version w1_near w0_near) H.size q → A q := va_freeP hD hS hA [0, 1, 2, 3, 4, 5, 6, 7] rfl
  refine va_callv (va_runV (As := [.ref a1]) (rest := []) ⟨hx, hb, hml, hown, htt⟩ (c_Pol_update l dC dI cI cJ cG cZ a0 a1 a0_near a0_nodes a0_factors a0_powers a0_product a1_near a1_tail a1_head r0_near H.size F v0_versionSeen w0_nodes w0_factors w0_powers w0_product v1_nodes v1_arcCount v1_version w1_near w0_near v0_versionSeen_1 w0_nodes_2 w0_factors_3 w0_powers_4 w0_product_5 w0_near_6 hc_7) (cwV 1 htt (gdV kt_391 kt_393 kp_14 kt_4 kt_394) rfl rfl rfl (by decide +kernel) ⟨(Nat.le_of_ble_eq_true rfl), (Nat.le_of_ble_eq_true rfl)⟩) ⟨PcS_blind, va_recv hK hPc (ci := 3) (q0 := 0) rfl rfl, PcS_in hPc hK hDc hNw⟩ rfl rfl hl.1 rfl (lv_room (Nat.le_of_ble_eq_true rfl)) d_Pol_atPower_2 ⟨Nat.zero_le _, Nat.zero_le _⟩) hS (fun q _ h => hFc q h) hFc (fun u t H1 locs ht hvm hw hB hz1 hk1 hS => ?_)
  obtain ⟨hP1, hK1, hD1⟩ := hB
  rw [ht] at hP1
  obtain ⟨hP, hD⟩ := va_joinP (wr := []) (rx := (we_Pol_update cI cJ cG cZ a0 a1 a0_near a0_nodes a0_factors a0_powers a0_product a1_near a1_tail a1_head r0_near v0_versionSeen_1 w0_nodes_2 w0_factors_3 w0_powers_4 w0_product_5 v1_nodes v1_arcCount v1_version w1_near w0_near_6)) hP hD [0, 1, 2, 3, 4, 5, 6, 7] [] rfl rfl (by decide) (by decide) hk1 hFc hP1 hD1
  have hP : va_P (dC, dI) vwCl (wd_Pol_atPower cI cJ cG cZ a0 a1 a0_near a0_nodes a0_factors a0_powers a0_product a1_near a1_tail a1_head r0_near v0_versionSeen_1 w0_nodes_2 w0_factors_3 w0_powers_4 w0_product_5 v1_nodes v1_arcCount v1_version w1_near w0_near_6) H1 := hP.part [0, 1, 2, 3, 4, 5, 6, 7] rfl
  have hD : va_D A (wd_Pol_atPower cI cJ cG cZ a0 a1 a0_near a0_nodes a0_factors a0_powers a0_product a1_near a1_tail a1_head r0_near v0_versionSeen_1 w0_nodes_2 w0_factors_3 w0_powers_4 w0_product_5 v1_nodes v1_arcCount v1_version w1_near w0_near_6) := hD.part [0, 1, 2, 3, 4, 5, 6, 7] (by decide) rfl
  clear hP1 hK1 hD1 hk1 hPc hDc hFc ht hvm hz1
  generalize H1 = H at hP hS ⊢
  refine lv_iload_n hx hb d_Pol_atPower_5 rfl (lv_at hl 2 rfl) ?_
  refine lv_if_lt (tgt := 26) hx hb d_Pol_atPower_6 (by decide) (fun c_9 => ?_) (fun c_9 => ?_)
  · have hm := ite_t c_9 hm
    refine lv_lconst (v := 0) hx hb d_Pol_atPower_26 (by decide) ?_
    cases hm
    exact W.lret hx hb hr (fun t ht hW => ⟨⟨_, (), rfl, rfl, by rw [ht]; exact hP, va_K.moved hW.alike hK, hD⟩, hS.F ht⟩) hS.2.2 d_Pol_atPower_27
  · have hm := ite_f c_9 hm
    refine lv_iload_n hx hb d_Pol_atPower_9 rfl (lv_at hl 2 rfl) ?_
    refine lv_aload_n hx hb d_Pol_atPower_10 rfl (lv_at hl 1 rfl) ?_
    refine va_get (D := (dC, dI)) (ci := 1) (v := .int v1_nodes) (C := R_Net) (T := T_Net) (N := 6) hx hb htt hin_Net hown hK hP 6 rfl rfl 3 (by decide) (htt _ kt_49) (fun _ h9 => h9) rfl d_Pol_atPower_11 ?_
    refine lv_icmp_gt (tgt := 26) hx hb d_Pol_atPower_14 (by decide) (fun c_10 => ?_) (fun c_10 => ?_)
    · have hm := ite_t c_10 hm
      refine lv_lconst (v := 0) hx hb d_Pol_atPower_26 (by decide) ?_
      cases hm
      exact W.lret hx hb hr (fun t ht hW => ⟨⟨_, (), rfl, rfl, by rw [ht]; exact hP, va_K.moved hW.alike hK, hD⟩, hS.F ht⟩) hS.2.2 d_Pol_atPower_27
    · have hm := ite_f c_10 hm
      refine lv_aload_n hx hb d_Pol_atPower_17 rfl (lv_at hl 0 rfl) ?_
      refine va_get (D := (dC, dI)) (ci := 3) (v := .ref a0_powers) (C := R_Pol) (T := T_Pol) (N := 6) hx hb htt hin_Pol hown hK hP 0 rfl rfl 3 (by decide) (htt _ kt_123) (fun _ h9 => h9) rfl d_Pol_atPower_18 ?_
      refine lv_iload_n hx hb d_Pol_atPower_21 rfl (lv_at hl 2 rfl) ?_
      obtain ⟨hi_11, hm⟩ := gC_e hm
      refine va_lald hx hb hK hP 4 1 rfl rfl (inb_vp hi_11) d_Pol_atPower_22 ?_
      refine lv_goto (tgt := 27) hx hb d_Pol_atPower_23 (by decide) ?_
      cases hm
      exact W.lret hx hb hr (fun t ht hW => ⟨⟨_, (), rfl, rfl, by rw [ht]; exact hP, va_K.moved hW.alike hK, hD⟩, hS.F ht⟩) hS.2.2 d_Pol_atPower_27
