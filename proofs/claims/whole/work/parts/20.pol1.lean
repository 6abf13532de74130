theorem d_Pol_splitTop_0 : decode prog_6_method_8_code 0 = .ok (.iload_n 2, 1) := by decide +kernel
theorem d_Pol_splitTop_1 : decode prog_6_method_8_code 1 = .ok (.invokestatic 89, 3) := by decide +kernel
theorem d_Pol_splitTop_4 : decode prog_6_method_8_code 4 = .ok (.istore_n 3, 1) := by decide +kernel
theorem d_Pol_splitTop_5 : decode prog_6_method_8_code 5 = .ok (.iload_n 2, 1) := by decide +kernel
theorem d_Pol_splitTop_6 : decode prog_6_method_8_code 6 = .ok (.iload_n 2, 1) := by decide +kernel
theorem d_Pol_splitTop_7 : decode prog_6_method_8_code 7 = .ok (.iconst 1, 1) := by decide +kernel
theorem d_Pol_splitTop_8 : decode prog_6_method_8_code 8 = .ok (.isub, 1) := by decide +kernel
theorem d_Pol_splitTop_9 : decode prog_6_method_8_code 9 = .ok (.iand, 1) := by decide +kernel
theorem d_Pol_splitTop_10 : decode prog_6_method_8_code 10 = .ok (.invokestatic 89, 3) := by decide +kernel
theorem d_Pol_splitTop_13 : decode prog_6_method_8_code 13 = .ok (.istore 4, 2) := by decide +kernel
theorem d_Pol_splitTop_15 : decode prog_6_method_8_code 15 = .ok (.aload_n 0, 1) := by decide +kernel
theorem d_Pol_splitTop_16 : decode prog_6_method_8_code 16 = .ok (.getfield 13, 3) := by decide +kernel
theorem d_Pol_splitTop_19 : decode prog_6_method_8_code 19 = .ok (.iload_n 1, 1) := by decide +kernel
theorem d_Pol_splitTop_20 : decode prog_6_method_8_code 20 = .ok (.aaload, 1) := by decide +kernel
theorem d_Pol_splitTop_21 : decode prog_6_method_8_code 21 = .ok (.iconst 0, 1) := by decide +kernel
theorem d_Pol_splitTop_22 : decode prog_6_method_8_code 22 = .ok (.aload_n 0, 1) := by decide +kernel
theorem d_Pol_splitTop_23 : decode prog_6_method_8_code 23 = .ok (.getfield 13, 3) := by decide +kernel
theorem d_Pol_splitTop_26 : decode prog_6_method_8_code 26 = .ok (.iload_n 1, 1) := by decide +kernel
theorem d_Pol_splitTop_27 : decode prog_6_method_8_code 27 = .ok (.iconst 1, 1) := by decide +kernel
theorem d_Pol_splitTop_28 : decode prog_6_method_8_code 28 = .ok (.iadd, 1) := by decide +kernel
theorem d_Pol_splitTop_29 : decode prog_6_method_8_code 29 = .ok (.aaload, 1) := by decide +kernel
theorem d_Pol_splitTop_30 : decode prog_6_method_8_code 30 = .ok (.iconst 0, 1) := by decide +kernel
theorem d_Pol_splitTop_31 : decode prog_6_method_8_code 31 = .ok (.bipush 12, 2) := by decide +kernel
theorem d_Pol_splitTop_33 : decode prog_6_method_8_code 33 = .ok (.invokestatic 53, 3) := by decide +kernel
theorem d_Pol_splitTop_36 : decode prog_6_method_8_code 36 = .ok (.aload_n 0, 1) := by decide +kernel
theorem d_Pol_splitTop_37 : decode prog_6_method_8_code 37 = .ok (.getfield 16, 3) := by decide +kernel
theorem d_Pol_splitTop_40 : decode prog_6_method_8_code 40 = .ok (.iload_n 1, 1) := by decide +kernel
theorem d_Pol_splitTop_41 : decode prog_6_method_8_code 41 = .ok (.iconst 1, 1) := by decide +kernel
theorem d_Pol_splitTop_42 : decode prog_6_method_8_code 42 = .ok (.iadd, 1) := by decide +kernel
theorem d_Pol_splitTop_43 : decode prog_6_method_8_code 43 = .ok (.aload_n 0, 1) := by decide +kernel
theorem d_Pol_splitTop_44 : decode prog_6_method_8_code 44 = .ok (.getfield 16, 3) := by decide +kernel
theorem d_Pol_splitTop_47 : decode prog_6_method_8_code 47 = .ok (.iload_n 1, 1) := by decide +kernel
theorem d_Pol_splitTop_48 : decode prog_6_method_8_code 48 = .ok (.iaload, 1) := by decide +kernel
theorem d_Pol_splitTop_49 : decode prog_6_method_8_code 49 = .ok (.iastore, 1) := by decide +kernel
theorem d_Pol_splitTop_50 : decode prog_6_method_8_code 50 = .ok (.aload_n 0, 1) := by decide +kernel
theorem d_Pol_splitTop_51 : decode prog_6_method_8_code 51 = .ok (.getfield 20, 3) := by decide +kernel
theorem d_Pol_splitTop_54 : decode prog_6_method_8_code 54 = .ok (.iload_n 1, 1) := by decide +kernel
theorem d_Pol_splitTop_55 : decode prog_6_method_8_code 55 = .ok (.iconst 1, 1) := by decide +kernel
theorem d_Pol_splitTop_56 : decode prog_6_method_8_code 56 = .ok (.iadd, 1) := by decide +kernel
theorem d_Pol_splitTop_57 : decode prog_6_method_8_code 57 = .ok (.aload_n 0, 1) := by decide +kernel
theorem d_Pol_splitTop_58 : decode prog_6_method_8_code 58 = .ok (.getfield 20, 3) := by decide +kernel
theorem d_Pol_splitTop_61 : decode prog_6_method_8_code 61 = .ok (.iload_n 1, 1) := by decide +kernel
theorem d_Pol_splitTop_62 : decode prog_6_method_8_code 62 = .ok (.laload, 1) := by decide +kernel
theorem d_Pol_splitTop_63 : decode prog_6_method_8_code 63 = .ok (.lastore, 1) := by decide +kernel
theorem d_Pol_splitTop_64 : decode prog_6_method_8_code 64 = .ok (.aload_n 0, 1) := by decide +kernel
theorem d_Pol_splitTop_65 : decode prog_6_method_8_code 65 = .ok (.getfield 13, 3) := by decide +kernel
theorem d_Pol_splitTop_68 : decode prog_6_method_8_code 68 = .ok (.iload_n 1, 1) := by decide +kernel
theorem d_Pol_splitTop_69 : decode prog_6_method_8_code 69 = .ok (.iconst 1, 1) := by decide +kernel
theorem d_Pol_splitTop_70 : decode prog_6_method_8_code 70 = .ok (.iadd, 1) := by decide +kernel
theorem d_Pol_splitTop_71 : decode prog_6_method_8_code 71 = .ok (.aaload, 1) := by decide +kernel
theorem d_Pol_splitTop_72 : decode prog_6_method_8_code 72 = .ok (.iload_n 3, 1) := by decide +kernel
theorem d_Pol_splitTop_73 : decode prog_6_method_8_code 73 = .ok (.dup2, 1) := by decide +kernel
theorem d_Pol_splitTop_74 : decode prog_6_method_8_code 74 = .ok (.iaload, 1) := by decide +kernel
theorem d_Pol_splitTop_75 : decode prog_6_method_8_code 75 = .ok (.iconst 1, 1) := by decide +kernel
theorem d_Pol_splitTop_76 : decode prog_6_method_8_code 76 = .ok (.iload 4, 2) := by decide +kernel
theorem d_Pol_splitTop_78 : decode prog_6_method_8_code 78 = .ok (.ishl, 1) := by decide +kernel
theorem d_Pol_splitTop_79 : decode prog_6_method_8_code 79 = .ok (.ior, 1) := by decide +kernel
theorem d_Pol_splitTop_80 : decode prog_6_method_8_code 80 = .ok (.iastore, 1) := by decide +kernel
theorem d_Pol_splitTop_81 : decode prog_6_method_8_code 81 = .ok (.aload_n 0, 1) := by decide +kernel
theorem d_Pol_splitTop_82 : decode prog_6_method_8_code 82 = .ok (.getfield 13, 3) := by decide +kernel
theorem d_Pol_splitTop_85 : decode prog_6_method_8_code 85 = .ok (.iload_n 1, 1) := by decide +kernel
theorem d_Pol_splitTop_86 : decode prog_6_method_8_code 86 = .ok (.iconst 1, 1) := by decide +kernel
theorem d_Pol_splitTop_87 : decode prog_6_method_8_code 87 = .ok (.iadd, 1) := by decide +kernel
theorem d_Pol_splitTop_88 : decode prog_6_method_8_code 88 = .ok (.aaload, 1) := by decide +kernel
theorem d_Pol_splitTop_89 : decode prog_6_method_8_code 89 = .ok (.iload 4, 2) := by decide +kernel
theorem d_Pol_splitTop_91 : decode prog_6_method_8_code 91 = .ok (.dup2, 1) := by decide +kernel
theorem d_Pol_splitTop_92 : decode prog_6_method_8_code 92 = .ok (.iaload, 1) := by decide +kernel
theorem d_Pol_splitTop_93 : decode prog_6_method_8_code 93 = .ok (.iconst 1, 1) := by decide +kernel
theorem d_Pol_splitTop_94 : decode prog_6_method_8_code 94 = .ok (.iload_n 3, 1) := by decide +kernel
theorem d_Pol_splitTop_95 : decode prog_6_method_8_code 95 = .ok (.ishl, 1) := by decide +kernel
theorem d_Pol_splitTop_96 : decode prog_6_method_8_code 96 = .ok (.ior, 1) := by decide +kernel
theorem d_Pol_splitTop_97 : decode prog_6_method_8_code 97 = .ok (.iastore, 1) := by decide +kernel
theorem d_Pol_splitTop_98 : decode prog_6_method_8_code 98 = .ok (.aload_n 0, 1) := by decide +kernel
theorem d_Pol_splitTop_99 : decode prog_6_method_8_code 99 = .ok (.getfield 13, 3) := by decide +kernel
theorem d_Pol_splitTop_102 : decode prog_6_method_8_code 102 = .ok (.iload_n 1, 1) := by decide +kernel
theorem d_Pol_splitTop_103 : decode prog_6_method_8_code 103 = .ok (.aaload, 1) := by decide +kernel
theorem d_Pol_splitTop_104 : decode prog_6_method_8_code 104 = .ok (.astore 5, 2) := by decide +kernel
theorem d_Pol_splitTop_106 : decode prog_6_method_8_code 106 = .ok (.aload 5, 2) := by decide +kernel
theorem d_Pol_splitTop_108 : decode prog_6_method_8_code 108 = .ok (.iload_n 3, 1) := by decide +kernel
theorem d_Pol_splitTop_109 : decode prog_6_method_8_code 109 = .ok (.dup2, 1) := by decide +kernel
theorem d_Pol_splitTop_110 : decode prog_6_method_8_code 110 = .ok (.iaload, 1) := by decide +kernel
theorem d_Pol_splitTop_111 : decode prog_6_method_8_code 111 = .ok (.aload 5, 2) := by decide +kernel
theorem d_Pol_splitTop_113 : decode prog_6_method_8_code 113 = .ok (.iload 4, 2) := by decide +kernel
theorem d_Pol_splitTop_115 : decode prog_6_method_8_code 115 = .ok (.iaload, 1) := by decide +kernel
theorem d_Pol_splitTop_116 : decode prog_6_method_8_code 116 = .ok (.ior, 1) := by decide +kernel
theorem d_Pol_splitTop_117 : decode prog_6_method_8_code 117 = .ok (.iastore, 1) := by decide +kernel
theorem d_Pol_splitTop_118 : decode prog_6_method_8_code 118 = .ok (.iconst 0, 1) := by decide +kernel
theorem d_Pol_splitTop_119 : decode prog_6_method_8_code 119 = .ok (.istore 6, 2) := by decide +kernel
theorem d_Pol_splitTop_121 : decode prog_6_method_8_code 121 = .ok (.iload 6, 2) := by decide +kernel
theorem d_Pol_splitTop_123 : decode prog_6_method_8_code 123 = .ok (.bipush 12, 2) := by decide +kernel
theorem d_Pol_splitTop_125 : decode prog_6_method_8_code 125 = .ok (.if_icmp .ge 33, 3) := by decide +kernel
theorem d_Pol_splitTop_128 : decode prog_6_method_8_code 128 = .ok (.aload 5, 2) := by decide +kernel
theorem d_Pol_splitTop_130 : decode prog_6_method_8_code 130 = .ok (.iload 4, 2) := by decide +kernel
theorem d_Pol_splitTop_132 : decode prog_6_method_8_code 132 = .ok (.iaload, 1) := by decide +kernel
theorem d_Pol_splitTop_133 : decode prog_6_method_8_code 133 = .ok (.iload 6, 2) := by decide +kernel
theorem d_Pol_splitTop_135 : decode prog_6_method_8_code 135 = .ok (.ishr, 1) := by decide +kernel
theorem d_Pol_splitTop_136 : decode prog_6_method_8_code 136 = .ok (.iconst 1, 1) := by decide +kernel
theorem d_Pol_splitTop_137 : decode prog_6_method_8_code 137 = .ok (.iand, 1) := by decide +kernel
theorem d_Pol_splitTop_138 : decode prog_6_method_8_code 138 = .ok (.ifCond .eq 14, 3) := by decide +kernel
theorem d_Pol_splitTop_141 : decode prog_6_method_8_code 141 = .ok (.aload 5, 2) := by decide +kernel
theorem d_Pol_splitTop_143 : decode prog_6_method_8_code 143 = .ok (.iload 6, 2) := by decide +kernel
theorem d_Pol_splitTop_145 : decode prog_6_method_8_code 145 = .ok (.dup2, 1) := by decide +kernel
theorem d_Pol_splitTop_146 : decode prog_6_method_8_code 146 = .ok (.iaload, 1) := by decide +kernel
theorem d_Pol_splitTop_147 : decode prog_6_method_8_code 147 = .ok (.iconst 1, 1) := by decide +kernel
theorem d_Pol_splitTop_148 : decode prog_6_method_8_code 148 = .ok (.iload_n 3, 1) := by decide +kernel
theorem d_Pol_splitTop_149 : decode prog_6_method_8_code 149 = .ok (.ishl, 1) := by decide +kernel
theorem d_Pol_splitTop_150 : decode prog_6_method_8_code 150 = .ok (.ior, 1) := by decide +kernel
theorem d_Pol_splitTop_151 : decode prog_6_method_8_code 151 = .ok (.iastore, 1) := by decide +kernel
theorem d_Pol_splitTop_152 : decode prog_6_method_8_code 152 = .ok (.iinc 6 1, 3) := by decide +kernel
theorem d_Pol_splitTop_155 : decode prog_6_method_8_code 155 = .ok (.goto (-34), 3) := by decide +kernel
theorem d_Pol_splitTop_158 : decode prog_6_method_8_code 158 = .ok (.aload_n 0, 1) := by decide +kernel
theorem d_Pol_splitTop_159 : decode prog_6_method_8_code 159 = .ok (.getfield 16, 3) := by decide +kernel
theorem d_Pol_splitTop_162 : decode prog_6_method_8_code 162 = .ok (.iload_n 1, 1) := by decide +kernel
theorem d_Pol_splitTop_163 : decode prog_6_method_8_code 163 = .ok (.dup2, 1) := by decide +kernel
theorem d_Pol_splitTop_164 : decode prog_6_method_8_code 164 = .ok (.iaload, 1) := by decide +kernel
theorem d_Pol_splitTop_165 : decode prog_6_method_8_code 165 = .ok (.iconst 1, 1) := by decide +kernel
theorem d_Pol_splitTop_166 : decode prog_6_method_8_code 166 = .ok (.iload 4, 2) := by decide +kernel
theorem d_Pol_splitTop_168 : decode prog_6_method_8_code 168 = .ok (.ishl, 1) := by decide +kernel
theorem d_Pol_splitTop_169 : decode prog_6_method_8_code 169 = .ok (.iconst (-1), 1) := by decide +kernel
theorem d_Pol_splitTop_170 : decode prog_6_method_8_code 170 = .ok (.ixor, 1) := by decide +kernel
theorem d_Pol_splitTop_171 : decode prog_6_method_8_code 171 = .ok (.iand, 1) := by decide +kernel
theorem d_Pol_splitTop_172 : decode prog_6_method_8_code 172 = .ok (.iastore, 1) := by decide +kernel
theorem d_Pol_splitTop_173 : decode prog_6_method_8_code 173 = .ok (.return_, 1) := by decide +kernel
abbrev wd_Pol_splitTop (cI cJ cG cZ : ClassId) (a0 a0_near a0_nodes a0_factors a0_powers a0_product : Nat) (r0_near : Nat → Nat) (v0_versionSeen : Int32) (w0_nodes : Nat → Int32) (w0_factors : Nat → Int64) (w0_near : Nat → Nat → Int32) : va_W := [(a0, .inr (3, [.ref a0_near, .ref a0_nodes, .ref a0_factors, .ref a0_powers, .ref a0_product, .int v0_versionSeen])), (a0_near, .inl (cG, 68, .inr (.inr (.inr (.inr (gO r0_near 68)))))), (a0_nodes, .inl (cI, 68, .inl w0_nodes)), (a0_factors, .inl (cJ, 68, .inr (.inl w0_factors)))] ++ rowsW r0_near cI 12 68 w0_near
abbrev we_Pol_splitTop (cI cJ cG cZ : ClassId) (a0 a0_near a0_nodes a0_factors a0_powers a0_product : Nat) (r0_near : Nat → Nat) (v0_versionSeen : Int32) (w0_nodes : Nat → Int32) (w0_factors : Nat → Int64) (w0_near : Nat → Nat → Int32) : va_W := [(a0, .inr (3, [.ref a0_near, .ref a0_nodes, .ref a0_factors, .ref a0_powers, .ref a0_product, .int v0_versionSeen])), (a0_near, .inl (cG, 68, .inr (.inr (.inr (.inr (gO r0_near 68)))))), (a0_nodes, .inl (cI, 68, .inl w0_nodes)), (a0_factors, .inl (cJ, 68, .inr (.inl w0_factors)))]
abbrev us_Pol_splitTop : List Cond := .code y_Pol_splitTop prog_6_method_8_code 7 none :: gtbl
abbrev rm_Pol_splitTop : Room := { frames := 2, cells := 0, slots := 0, locals := 40 }
def m_Pol_splitTop (F : Nat) (v0_versionSeen : Int32) (w0_nodes : Nat → Int32) (w0_factors : Nat → Int64) (w0_near : Nat → Nat → Int32) (p1 : Int32) (p2 : Int32) : Option ((Nat → Int32) × (Nat → Int64) × (Nat → Nat → Int32)) :=
  gM (m_CS_lowestOf F p2) (fun q_1 =>
  gM (m_CS_lowestOf F (p2 &&& (p2 - 1))) (fun q_4 =>
  gC (inb p1 68) (
  gC (inb (p1 + 1) 68) (
  gC (cpyB (0 : Int32) (0 : Int32) (12 : Int32) 12 12) (
  gC (inb p1 68) (
  gC (inb (p1 + 1) 68) (
  gC (inb p1 68) (
  gC (inb (p1 + 1) 68) (
  gC (inb (p1 + 1) 68) (
  gC (inb q_1 12) (
  gC (inb q_1 12) (
  gC (inb (p1 + 1) 68) (
  gC (inb q_4 12) (
  gC (inb q_4 12) (
  gC (inb p1 68) (
  gC (inb q_1 12) (
  gC (inb q_4 12) (
  gC (inb q_1 12) (
  gL (fun (k_121 : (Int32 × (Nat → Nat → Int32)) → Option ((Nat → Int32) × (Nat → Int64) × (Nat → Nat → Int32))) (z_121 : Int32 × (Nat → Nat → Int32)) => match z_121 with
  | (x6_29, w0_near_30) =>
  if (12 : Int32) ≤ x6_29 then (
    gC (inb p1 68) (
    gC (inb p1 68) (
    some (upd (upd w0_nodes (p1 + 1).toNatClampNeg (w0_nodes p1.toNatClampNeg)) p1.toNatClampNeg (((upd w0_nodes (p1 + 1).toNatClampNeg (w0_nodes p1.toNatClampNeg)) p1.toNatClampNeg) &&& (((1 : Int32) <<< (q_4 &&& 31)) ^^^ (-1))), vp_updL w0_factors (p1 + 1).toNatClampNeg (w0_factors p1.toNatClampNeg), w0_near_30)))
  ) else (
    gC (inb q_4 12) (
    if (((w0_near_30 p1.toNatClampNeg q_4.toNatClampNeg) >>> (x6_29 &&& 31)) &&& 1) = 0 then (
      gB (x6_29 + 1) (fun x6_36 =>
      k_121 (x6_36, w0_near_30))
    ) else (
      gC (inb x6_29 12) (
      gC (inb x6_29 12) (
      gB (x6_29 + 1) (fun x6_39 =>
      k_121 (x6_39, gU w0_near_30 p1.toNatClampNeg x6_29.toNatClampNeg ((w0_near_30 p1.toNatClampNeg x6_29.toNatClampNeg) ||| ((1 : Int32) <<< (q_1 &&& 31)))))))
    ))
  )
  ) F (0, gU (gU (gU (gF w0_near ((p1 + 1).toNatClampNeg) (va_cpy (w0_near p1.toNatClampNeg) (w0_near ((p1 + 1).toNatClampNeg)) (0 : Int32).toNatClampNeg (0 : Int32).toNatClampNeg (12 : Int32).toNatClampNeg)) ((p1 + 1).toNatClampNeg) q_1.toNatClampNeg (((gF w0_near ((p1 + 1).toNatClampNeg) (va_cpy (w0_near p1.toNatClampNeg) (w0_near ((p1 + 1).toNatClampNeg)) (0 : Int32).toNatClampNeg (0 : Int32).toNatClampNeg (12 : Int32).toNatClampNeg)) ((p1 + 1).toNatClampNeg) q_1.toNatClampNeg) ||| ((1 : Int32) <<< (q_4 &&& 31)))) ((p1 + 1).toNatClampNeg) q_4.toNatClampNeg (((gU (gF w0_near ((p1 + 1).toNatClampNeg) (va_cpy (w0_near p1.toNatClampNeg) (w0_near ((p1 + 1).toNatClampNeg)) (0 : Int32).toNatClampNeg (0 : Int32).toNatClampNeg (12 : Int32).toNatClampNeg)) ((p1 + 1).toNatClampNeg) q_1.toNatClampNeg (((gF w0_near ((p1 + 1).toNatClampNeg) (va_cpy (w0_near p1.toNatClampNeg) (w0_near ((p1 + 1).toNatClampNeg)) (0 : Int32).toNatClampNeg (0 : Int32).toNatClampNeg (12 : Int32).toNatClampNeg)) ((p1 + 1).toNatClampNeg) q_1.toNatClampNeg) ||| ((1 : Int32) <<< (q_4 &&& 31)))) ((p1 + 1).toNatClampNeg) q_4.toNatClampNeg) ||| ((1 : Int32) <<< (q_1 &&& 31)))) p1.toNatClampNeg q_1.toNatClampNeg (((gU (gU (gF w0_near ((p1 + 1).toNatClampNeg) (va_cpy (w0_near p1.toNatClampNeg) (w0_near ((p1 + 1).toNatClampNeg)) (0 : Int32).toNatClampNeg (0 : Int32).toNatClampNeg (12 : Int32).toNatClampNeg)) ((p1 + 1).toNatClampNeg) q_1.toNatClampNeg (((gF w0_near ((p1 + 1).toNatClampNeg) (va_cpy (w0_near p1.toNatClampNeg) (w0_near ((p1 + 1).toNatClampNeg)) (0 : Int32).toNatClampNeg (0 : Int32).toNatClampNeg (12 : Int32).toNatClampNeg)) ((p1 + 1).toNatClampNeg) q_1.toNatClampNeg) ||| ((1 : Int32) <<< (q_4 &&& 31)))) ((p1 + 1).toNatClampNeg) q_4.toNatClampNeg (((gU (gF w0_near ((p1 + 1).toNatClampNeg) (va_cpy (w0_near p1.toNatClampNeg) (w0_near ((p1 + 1).toNatClampNeg)) (0 : Int32).toNatClampNeg (0 : Int32).toNatClampNeg (12 : Int32).toNatClampNeg)) ((p1 + 1).toNatClampNeg) q_1.toNatClampNeg (((gF w0_near ((p1 + 1).toNatClampNeg) (va_cpy (w0_near p1.toNatClampNeg) (w0_near ((p1 + 1).toNatClampNeg)) (0 : Int32).toNatClampNeg (0 : Int32).toNatClampNeg (12 : Int32).toNatClampNeg)) ((p1 + 1).toNatClampNeg) q_1.toNatClampNeg) ||| ((1 : Int32) <<< (q_4 &&& 31)))) ((p1 + 1).toNatClampNeg) q_4.toNatClampNeg) ||| ((1 : Int32) <<< (q_1 &&& 31)))) p1.toNatClampNeg q_1.toNatClampNeg) ||| ((gU (gU (gF w0_near ((p1 + 1).toNatClampNeg) (va_cpy (w0_near p1.toNatClampNeg) (w0_near ((p1 + 1).toNatClampNeg)) (0 : Int32).toNatClampNeg (0 : Int32).toNatClampNeg (12 : Int32).toNatClampNeg)) ((p1 + 1).toNatClampNeg) q_1.toNatClampNeg (((gF w0_near ((p1 + 1).toNatClampNeg) (va_cpy (w0_near p1.toNatClampNeg) (w0_near ((p1 + 1).toNatClampNeg)) (0 : Int32).toNatClampNeg (0 : Int32).toNatClampNeg (12 : Int32).toNatClampNeg)) ((p1 + 1).toNatClampNeg) q_1.toNatClampNeg) ||| ((1 : Int32) <<< (q_4 &&& 31)))) ((p1 + 1).toNatClampNeg) q_4.toNatClampNeg (((gU (gF w0_near ((p1 + 1).toNatClampNeg) (va_cpy (w0_near p1.toNatClampNeg) (w0_near ((p1 + 1).toNatClampNeg)) (0 : Int32).toNatClampNeg (0 : Int32).toNatClampNeg (12 : Int32).toNatClampNeg)) ((p1 + 1).toNatClampNeg) q_1.toNatClampNeg (((gF w0_near ((p1 + 1).toNatClampNeg) (va_cpy (w0_near p1.toNatClampNeg) (w0_near ((p1 + 1).toNatClampNeg)) (0 : Int32).toNatClampNeg (0 : Int32).toNatClampNeg (12 : Int32).toNatClampNeg)) ((p1 + 1).toNatClampNeg) q_1.toNatClampNeg) ||| ((1 : Int32) <<< (q_4 &&& 31)))) ((p1 + 1).toNatClampNeg) q_4.toNatClampNeg) ||| ((1 : Int32) <<< (q_1 &&& 31)))) p1.toNatClampNeg q_4.toNatClampNeg))))))))))))))))))))))
set_option maxHeartbeats 4000000 in
set_option maxRecDepth 100000 in
theorem c_Pol_splitTop (l : Launch) (dC : Nat → ClassId) (dI : Nat → Nat → Nat) (cI cJ cG cZ : ClassId) (a0 a0_near a0_nodes a0_factors a0_powers a0_product : Nat) (r0_near : Nat → Nat) (sz : Nat) (F : Nat) (v0_versionSeen : Int32) (w0_nodes : Nat → Int32) (w0_factors : Nat → Int64) (w0_near : Nat → Nat → Int32) (p1 : Int32) (p2 : Int32) (o_w0_nodes : Nat → Int32) (o_w0_factors : Nat → Int64) (o_w0_near : Nat → Nat → Int32) (hm : m_Pol_splitTop F v0_versionSeen w0_nodes w0_factors w0_near p1 p2 = some (o_w0_nodes, o_w0_factors, o_w0_near)) : Met l y_Pol_splitTop us_Pol_splitTop rm_Pol_splitTop (PcS (dC, dI) (tyL cI cJ cG cZ) [.ref a0, .int p1, .int p2] sz (wd_Pol_splitTop cI cJ cG cZ a0 a0_near a0_nodes a0_factors a0_powers a0_product r0_near v0_versionSeen w0_nodes w0_factors w0_near)) (va_Qv (fun (_ : Unit) => True) (fun _ t => PoS (dC, dI) (tyL cI cJ cG cZ) (wd_Pol_splitTop cI cJ cG cZ a0 a0_near a0_nodes a0_factors a0_powers a0_product r0_near v0_versionSeen o_w0_nodes o_w0_factors o_w0_near) (va_A (wd_Pol_splitTop cI cJ cG cZ a0 a0_near a0_nodes a0_factors a0_powers a0_product r0_near v0_versionSeen w0_nodes w0_factors w0_near) sz) t) (va_A (wd_Pol_splitTop cI cJ cG cZ a0 a0_near a0_nodes a0_factors a0_powers a0_product r0_near v0_versionSeen w0_nodes w0_factors w0_near) sz)) 0 0 (va_A (wd_Pol_splitTop cI cJ cG cZ a0 a0_near a0_nodes a0_factors a0_powers a0_product r0_near v0_versionSeen w0_nodes w0_factors w0_near) sz) := by
  refine Met.ofW (cc := prog_6_method_8_code) (maxL := 7) (ret := none) (by decide) rfl ?_
  intro p e s m args below meth c s₁ B hml hv
  obtain ⟨rfl, hsz, hP, hK, hD0, hNw⟩ := hv
  have hx := B.exec
  have hb := B.bytes
  have hr := B.returns
  have htt : ∀ w ∈ gtbl, w.before _ s = true := fun w h => atoms_spec (ws := us_Pol_splitTop) B.pre w (List.mem_cons_of_mem _ h)
  have hown : s.vm.findClass R_Pol = some m.cls := findClass_of_methodNamed B.named
  have hlocks := B.notSynchronized
  subst hsz
  have hD := hD0.self (sz := s.heap.size)
  generalize hAe : va_A (wd_Pol_splitTop cI cJ cG cZ a0 a0_near a0_nodes a0_factors a0_powers a0_product r0_near v0_versionSeen w0_nodes w0_factors w0_near) s.heap.size = A at hD ⊢
  have hA : ∀ q : Nat, s.heap.size ≤ q → A q := fun q h => by rw [← hAe]; exact Or.inr h
  clear hAe hD0
  have hS : va_S A s.heap s.heap [] := va_S.rf
  have hl := lv_entry ([.ref a0, .int p1, .int p2]) (n := 7) (Nat.le_of_ble_eq_true rfl)
  rw [lg_entry_eq]
  generalize (lg_sl ([.ref a0, .int p1, .int p2]) ++ List.replicate (7 - (lg_sl ([.ref a0, .int p1, .int p2])).length) Slot.unset).toArray = ls at hl ⊢
  have hl : lv_has ls 7 [(0, .ref a0), (1, .int p1), (2, .int p2)] := hl
  generalize hH : s.heap = H at hP ⊢
  have hS : va_S A s.heap H [] := hH ▸ hS
  generalize hLo : ([] : List Loc) = locs at hS ⊢
  clear hH hLo
  unfold m_Pol_splitTop at hm
  refine lv_iload_n hx hb d_Pol_splitTop_0 rfl (lv_at hl 2 rfl) ?_
  obtain ⟨q_1, hc_2, hm⟩ := gM_e hm
  have hPc : va_P (dC, dI) vwCl (wd_CS_lowestOf cI cJ cG cZ) H := hP.sub [] rfl
  have hDc : va_D A (wd_CS_lowestOf cI cJ cG cZ) := hD.sub [] (by decide) rfl
  have hFc : ∀ q, va_A (wd_CS_lowestOf cI cJ cG cZ) H.size q → A q := va_free hD hS hA [] rfl
  refine va_calli (va_runSN (host := R_CS) (As := [.int p2]) (rest := []) ⟨hx, hb, hml, hown, htt⟩ (c_CS_lowestOf l dC dI cI cJ cG cZ H.size F p2 q_1 hc_2) ⟨va_cnB 1 htt (gdN kt_427) rfl rfl rfl (hNw _ kt_425) (htt _ kt_1) (by decide +kernel) ⟨(Nat.le_of_ble_eq_true rfl), (Nat.le_of_ble_eq_true rfl)⟩, htt _ kt_426, trivial⟩ ⟨PcS_blind, PcS_in hPc hK hDc hNw⟩ rfl rfl hl.1 rfl (lv_room (Nat.le_of_ble_eq_true rfl)) d_Pol_splitTop_1 ⟨Nat.zero_le _, Nat.zero_le _⟩) hS (fun q _ h => hFc q h) hFc (fun r_3 u t H1 locs ht hvm hw hB hz1 hk1 hS => ?_)
  obtain ⟨hP1, hK1, hD1⟩ := hB
  rw [ht] at hP1
  subst hw
  obtain ⟨hP, hD⟩ := va_joinQ (wr := [(a0, .inr (3, [.ref a0_near, .ref a0_nodes, .ref a0_factors, .ref a0_powers, .ref a0_product, .int v0_versionSeen])), (a0_near, .inl (cG, 68, .inr (.inr (.inr (.inr (gO r0_near 68)))))), (a0_nodes, .inl (cI, 68, .inl w0_nodes)), (a0_factors, .inl (cJ, 68, .inr (.inl w0_factors)))]) (w1 := (wd_CS_lowestOf cI cJ cG cZ)) hP hD [] [0, 1, 2, 3] rfl rfl (by decide) (by decide) hk1 hFc hP1 hD1
  have hP : va_P (dC, dI) vwCl (wd_Pol_splitTop cI cJ cG cZ a0 a0_near a0_nodes a0_factors a0_powers a0_product r0_near v0_versionSeen w0_nodes w0_factors w0_near) H1 := hP.part [0, 1, 2, 3] rfl
  have hD : va_D A (wd_Pol_splitTop cI cJ cG cZ a0 a0_near a0_nodes a0_factors a0_powers a0_product r0_near v0_versionSeen w0_nodes w0_factors w0_near) := hD.part [0, 1, 2, 3] (by decide) rfl
  clear hP1 hK1 hD1 hk1 hPc hDc hFc ht hvm hz1
  generalize H1 = H at hP hS ⊢
  refine lv_istore_n (lv' := [(3, .int q_1), (0, .ref a0), (1, .int p1), (2, .int p2)]) hx hb d_Pol_splitTop_4 rfl hl (by decide) rfl (fun ls hl => ?_)
  refine lv_iload_n hx hb d_Pol_splitTop_5 rfl (lv_at hl 3 rfl) ?_
  refine lv_iload_n hx hb d_Pol_splitTop_6 rfl (lv_at hl 3 rfl) ?_
  refine lv_iconst (v := 1) hx hb d_Pol_splitTop_7 (by decide) ?_
  refine lv_isub hx hb d_Pol_splitTop_8 ?_
  refine lv_iand hx hb d_Pol_splitTop_9 ?_
  obtain ⟨q_4, hc_5, hm⟩ := gM_e hm
  have hPc : va_P (dC, dI) vwCl (wd_CS_lowestOf cI cJ cG cZ) H := hP.sub [] rfl
  have hDc : va_D A (wd_CS_lowestOf cI cJ cG cZ) := hD.sub [] (by decide) rfl
  have hFc : ∀ q, va_A (wd_CS_lowestOf cI cJ cG cZ) H.size q → A q := va_free hD hS hA [] rfl
  refine va_calli (va_runSN (host := R_CS) (As := [.int (p2 &&& (p2 - 1))]) (rest := []) ⟨hx, hb, hml, hown, htt⟩ (c_CS_lowestOf l dC dI cI cJ cG cZ H.size F (p2 &&& (p2 - 1)) q_4 hc_5) ⟨va_cnB 1 htt (gdN kt_427) rfl rfl rfl (hNw _ kt_425) (htt _ kt_1) (by decide +kernel) ⟨(Nat.le_of_ble_eq_true rfl), (Nat.le_of_ble_eq_true rfl)⟩, htt _ kt_426, trivial⟩ ⟨PcS_blind, PcS_in hPc hK hDc hNw⟩ rfl rfl hl.1 rfl (lv_room (Nat.le_of_ble_eq_true rfl)) d_Pol_splitTop_10 ⟨Nat.zero_le _, Nat.zero_le _⟩) hS (fun q _ h => hFc q h) hFc (fun r_6 u t H1 locs ht hvm hw hB hz1 hk1 hS => ?_)
  obtain ⟨hP1, hK1, hD1⟩ := hB
  rw [ht] at hP1
  subst hw
  obtain ⟨hP, hD⟩ := va_joinQ (wr := [(a0, .inr (3, [.ref a0_near, .ref a0_nodes, .ref a0_factors, .ref a0_powers, .ref a0_product, .int v0_versionSeen])), (a0_near, .inl (cG, 68, .inr (.inr (.inr (.inr (gO r0_near 68)))))), (a0_nodes, .inl (cI, 68, .inl w0_nodes)), (a0_factors, .inl (cJ, 68, .inr (.inl w0_factors)))]) (w1 := (wd_CS_lowestOf cI cJ cG cZ)) hP hD [] [0, 1, 2, 3] rfl rfl (by decide) (by decide) hk1 hFc hP1 hD1
  have hP : va_P (dC, dI) vwCl (wd_Pol_splitTop cI cJ cG cZ a0 a0_near a0_nodes a0_factors a0_powers a0_product r0_near v0_versionSeen w0_nodes w0_factors w0_near) H1 := hP.part [0, 1, 2, 3] rfl
  have hD : va_D A (wd_Pol_splitTop cI cJ cG cZ a0 a0_near a0_nodes a0_factors a0_powers a0_product r0_near v0_versionSeen w0_nodes w0_factors w0_near) := hD.part [0, 1, 2, 3] (by decide) rfl
  clear hP1 hK1 hD1 hk1 hPc hDc hFc ht hvm hz1
  generalize H1 = H at hP hS ⊢
  refine lv_istore (lv' := [(4, .int q_4), (3, .int q_1), (0, .ref a0), (1, .int p1), (2, .int p2)]) hx hb d_Pol_splitTop_13 hl (by decide) rfl (fun ls hl => ?_)
  refine lv_aload_n hx hb d_Pol_splitTop_15 rfl (lv_at hl 2 rfl) ?_
  refine va_get (D := (dC, dI)) (ci := 3) (v := .ref a0_near) (C := R_Pol) (T := T_Pol) (N := 6) hx hb htt hin_Pol hown hK hP 0 rfl rfl 0 (by decide) (htt _ kt_120) (fun _ h9 => h9) rfl d_Pol_splitTop_16 ?_
  refine lv_iload_n hx hb d_Pol_splitTop_19 rfl (lv_at hl 3 rfl) ?_
  obtain ⟨hi_7, hm⟩ := gC_e hm
  have hj_8 := inb_lt hi_7
  refine gx_ald hx hb hK hP 1 2 rfl rfl (inb_vp hi_7) d_Pol_splitTop_20 ?_
  refine lv_iconst (v := 0) hx hb d_Pol_splitTop_21 (by decide) ?_
  refine lv_aload_n hx hb d_Pol_splitTop_22 rfl (lv_at hl 2 rfl) ?_
  refine va_get (D := (dC, dI)) (ci := 3) (v := .ref a0_near) (C := R_Pol) (T := T_Pol) (N := 6) hx hb htt hin_Pol hown hK hP 0 rfl rfl 0 (by decide) (htt _ kt_120) (fun _ h9 => h9) rfl d_Pol_splitTop_23 ?_
  refine lv_iload_n hx hb d_Pol_splitTop_26 rfl (lv_at hl 3 rfl) ?_
  refine lv_iconst (v := 1) hx hb d_Pol_splitTop_27 (by decide) ?_
  refine lv_iadd hx hb d_Pol_splitTop_28 ?_
  obtain ⟨hi_9, hm⟩ := gC_e hm
  have hj_10 := inb_lt hi_9
  refine gx_ald hx hb hK hP 1 2 rfl rfl (inb_vp hi_9) d_Pol_splitTop_29 ?_
  refine lv_iconst (v := 0) hx hb d_Pol_splitTop_30 (by decide) ?_
  refine lv_bipush (v := 12) hx hb d_Pol_splitTop_31 (by decide) ?_
  obtain ⟨hy_11, hm⟩ := gC_e hm
  refine gx_copy hx hb hml hown htt kt_398 hK hP hD hS (4 + p1.toNatClampNeg) (4 + (p1 + 1).toNatClampNeg) (rows_get rfl hj_8) (rows_get rfl hj_10) hy_11 hl.1 (lv_room (Nat.le_of_ble_eq_true rfl)) (Nat.le_of_ble_eq_true rfl) (Nat.le_of_ble_eq_true rfl) d_Pol_splitTop_33 (fun H locs hP hD hS => ?_)
  have hP := rows_setP rfl hP
  have hD := rows_setD rfl hD
  have hP : va_P (dC, dI) vwCl (wd_Pol_splitTop cI cJ cG cZ a0 a0_near a0_nodes a0_factors a0_powers a0_product r0_near v0_versionSeen w0_nodes w0_factors (gF w0_near ((p1 + 1).toNatClampNeg) (va_cpy (w0_near p1.toNatClampNeg) (w0_near ((p1 + 1).toNatClampNeg)) (0 : Int32).toNatClampNeg (0 : Int32).toNatClampNeg (12 : Int32).toNatClampNeg))) H := hP
  have hD : va_D A (wd_Pol_splitTop cI cJ cG cZ a0 a0_near a0_nodes a0_factors a0_powers a0_product r0_near v0_versionSeen w0_nodes w0_factors (gF w0_near ((p1 + 1).toNatClampNeg) (va_cpy (w0_near p1.toNatClampNeg) (w0_near ((p1 + 1).toNatClampNeg)) (0 : Int32).toNatClampNeg (0 : Int32).toNatClampNeg (12 : Int32).toNatClampNeg))) := hD
  refine lv_aload_n hx hb d_Pol_splitTop_36 rfl (lv_at hl 2 rfl) ?_
  refine va_get (D := (dC, dI)) (ci := 3) (v := .ref a0_nodes) (C := R_Pol) (T := T_Pol) (N := 6) hx hb htt hin_Pol hown hK hP 0 rfl rfl 1 (by decide) (htt _ kt_121) (fun _ h9 => h9) rfl d_Pol_splitTop_37 ?_
  refine lv_iload_n hx hb d_Pol_splitTop_40 rfl (lv_at hl 3 rfl) ?_
  refine lv_iconst (v := 1) hx hb d_Pol_splitTop_41 (by decide) ?_
  refine lv_iadd hx hb d_Pol_splitTop_42 ?_
  refine lv_aload_n hx hb d_Pol_splitTop_43 rfl (lv_at hl 2 rfl) ?_
  refine va_get (D := (dC, dI)) (ci := 3) (v := .ref a0_nodes) (C := R_Pol) (T := T_Pol) (N := 6) hx hb htt hin_Pol hown hK hP 0 rfl rfl 1 (by decide) (htt _ kt_121) (fun _ h9 => h9) rfl d_Pol_splitTop_44 ?_
  refine lv_iload_n hx hb d_Pol_splitTop_47 rfl (lv_at hl 3 rfl) ?_
  obtain ⟨hi_12, hm⟩ := gC_e hm
  refine va_iald hx hb hK hP 2 0 rfl rfl (inb_vp hi_12) d_Pol_splitTop_48 ?_
  obtain ⟨hi_13, hm⟩ := gC_e hm
  refine va_iast hx hb hK hP hD hS 2 0 rfl rfl (inb_vp hi_13) d_Pol_splitTop_49 (fun H locs hP hD hS => ?_)
  have hP : va_P (dC, dI) vwCl (wd_Pol_splitTop cI cJ cG cZ a0 a0_near a0_nodes a0_factors a0_powers a0_product r0_near v0_versionSeen (upd w0_nodes (p1 + 1).toNatClampNeg (w0_nodes p1.toNatClampNeg)) w0_factors (gF w0_near ((p1 + 1).toNatClampNeg) (va_cpy (w0_near p1.toNatClampNeg) (w0_near ((p1 + 1).toNatClampNeg)) (0 : Int32).toNatClampNeg (0 : Int32).toNatClampNeg (12 : Int32).toNatClampNeg))) H := hP
  have hD : va_D A (wd_Pol_splitTop cI cJ cG cZ a0 a0_near a0_nodes a0_factors a0_powers a0_product r0_near v0_versionSeen (upd w0_nodes (p1 + 1).toNatClampNeg (w0_nodes p1.toNatClampNeg)) w0_factors (gF w0_near ((p1 + 1).toNatClampNeg) (va_cpy (w0_near p1.toNatClampNeg) (w0_near ((p1 + 1).toNatClampNeg)) (0 : Int32).toNatClampNeg (0 : Int32).toNatClampNeg (12 : Int32).toNatClampNeg))) := hD
  refine lv_aload_n hx hb d_Pol_splitTop_50 rfl (lv_at hl 2 rfl) ?_
  refine va_get (D := (dC, dI)) (ci := 3) (v := .ref a0_factors) (C := R_Pol) (T := T_Pol) (N := 6) hx hb htt hin_Pol hown hK hP 0 rfl rfl 2 (by decide) (htt _ kt_122) (fun _ h9 => h9) rfl d_Pol_splitTop_51 ?_
  refine lv_iload_n hx hb d_Pol_splitTop_54 rfl (lv_at hl 3 rfl) ?_
  refine lv_iconst (v := 1) hx hb d_Pol_splitTop_55 (by decide) ?_
  refine lv_iadd hx hb d_Pol_splitTop_56 ?_
  refine lv_aload_n hx hb d_Pol_splitTop_57 rfl (lv_at hl 2 rfl) ?_
  refine va_get (D := (dC, dI)) (ci := 3) (v := .ref a0_factors) (C := R_Pol) (T := T_Pol) (N := 6) hx hb htt hin_Pol hown hK hP 0 rfl rfl 2 (by decide) (htt _ kt_122) (fun _ h9 => h9) rfl d_Pol_splitTop_58 ?_
  refine lv_iload_n hx hb d_Pol_splitTop_61 rfl (lv_at hl 3 rfl) ?_
  obtain ⟨hi_14, hm⟩ := gC_e hm
  refine va_lald hx hb hK hP 3 1 rfl rfl (inb_vp hi_14) d_Pol_splitTop_62 ?_
  obtain ⟨hi_15, hm⟩ := gC_e hm
  refine va_last hx hb hK hP hD hS 3 1 rfl rfl (inb_vp hi_15) d_Pol_splitTop_63 (fun H locs hP hD hS => ?_)
  have hP : va_P (dC, dI) vwCl (wd_Pol_splitTop cI cJ cG cZ a0 a0_near a0_nodes a0_factors a0_powers a0_product r0_near v0_versionSeen (upd w0_nodes (p1 + 1).toNatClampNeg (w0_nodes p1.toNatClampNeg)) (vp_updL w0_factors (p1 + 1).toNatClampNeg (w0_factors p1.toNatClampNeg)) (gF w0_near ((p1 + 1).toNatClampNeg) (va_cpy (w0_near p1.toNatClampNeg) (w0_near ((p1 + 1).toNatClampNeg)) (0 : Int32).toNatClampNeg (0 : Int32).toNatClampNeg (12 : Int32).toNatClampNeg))) H := hP
  have hD : va_D A (wd_Pol_splitTop cI cJ cG cZ a0 a0_near a0_nodes a0_factors a0_powers a0_product r0_near v0_versionSeen (upd w0_nodes (p1 + 1).toNatClampNeg (w0_nodes p1.toNatClampNeg)) (vp_updL w0_factors (p1 + 1).toNatClampNeg (w0_factors p1.toNatClampNeg)) (gF w0_near ((p1 + 1).toNatClampNeg) (va_cpy (w0_near p1.toNatClampNeg) (w0_near ((p1 + 1).toNatClampNeg)) (0 : Int32).toNatClampNeg (0 : Int32).toNatClampNeg (12 : Int32).toNatClampNeg))) := hD
  refine lv_aload_n hx hb d_Pol_splitTop_64 rfl (lv_at hl 2 rfl) ?_
  refine va_get (D := (dC, dI)) (ci := 3) (v := .ref a0_near) (C := R_Pol) (T := T_Pol) (N := 6) hx hb htt hin_Pol hown hK hP 0 rfl rfl 0 (by decide) (htt _ kt_120) (fun _ h9 => h9) rfl d_Pol_splitTop_65 ?_
  refine lv_iload_n hx hb d_Pol_splitTop_68 rfl (lv_at hl 3 rfl) ?_
  refine lv_iconst (v := 1) hx hb d_Pol_splitTop_69 (by decide) ?_
  refine lv_iadd hx hb d_Pol_splitTop_70 ?_
  obtain ⟨hi_16, hm⟩ := gC_e hm
  have hj_17 := inb_lt hi_16
  refine gx_ald hx hb hK hP 1 2 rfl rfl (inb_vp hi_16) d_Pol_splitTop_71 ?_
  refine lv_iload_n hx hb d_Pol_splitTop_72 rfl (lv_at hl 1 rfl) ?_
  refine lv_dup2_11 hx hb d_Pol_splitTop_73 rfl rfl ?_
  obtain ⟨hi_18, hm⟩ := gC_e hm
  refine va_iald hx hb hK hP (4 + (p1 + 1).toNatClampNeg) 0 (rows_get rfl hj_17) rfl (inb_vp hi_18) d_Pol_splitTop_74 ?_
  refine lv_iconst (v := 1) hx hb d_Pol_splitTop_75 (by decide) ?_
  refine lv_iload hx hb d_Pol_splitTop_76 (lv_at hl 0 rfl) ?_
  refine lv_ishl hx hb d_Pol_splitTop_78 ?_
  refine lv_ior hx hb d_Pol_splitTop_79 ?_
  obtain ⟨hi_19, hm⟩ := gC_e hm
  refine va_iast hx hb hK hP hD hS (4 + (p1 + 1).toNatClampNeg) 0 (rows_get rfl hj_17) rfl (inb_vp hi_19) d_Pol_splitTop_80 (fun H locs hP hD hS => ?_)
  have hP := rows_setP rfl hP
  have hD := rows_setD rfl hD
  have hP : va_P (dC, dI) vwCl (wd_Pol_splitTop cI cJ cG cZ a0 a0_near a0_nodes a0_factors a0_powers a0_product r0_near v0_versionSeen (upd w0_nodes (p1 + 1).toNatClampNeg (w0_nodes p1.toNatClampNeg)) (vp_updL w0_factors (p1 + 1).toNatClampNeg (w0_factors p1.toNatClampNeg)) (gU (gF w0_near ((p1 + 1).toNatClampNeg) (va_cpy (w0_near p1.toNatClampNeg) (w0_near ((p1 + 1).toNatClampNeg)) (0 : Int32).toNatClampNeg (0 : Int32).toNatClampNeg (12 : Int32).toNatClampNeg)) ((p1 + 1).toNatClampNeg) q_1.toNatClampNeg (((gF w0_near ((p1 + 1).toNatClampNeg) (va_cpy (w0_near p1.toNatClampNeg) (w0_near ((p1 + 1).toNatClampNeg)) (0 : Int32).toNatClampNeg (0 : Int32).toNatClampNeg (12 : Int32).toNatClampNeg)) ((p1 + 1).toNatClampNeg) q_1.toNatClampNeg) ||| ((1 : Int32) <<< (q_4 &&& 31))))) H := hP
  have hD : va_D A (wd_Pol_splitTop cI cJ cG cZ a0 a0_near a0_nodes a0_factors a0_powers a0_product r0_near v0_versionSeen (upd w0_nodes (p1 + 1).toNatClampNeg (w0_nodes p1.toNatClampNeg)) (vp_updL w0_factors (p1 + 1).toNatClampNeg (w0_factors p1.toNatClampNeg)) (gU (gF w0_near ((p1 + 1).toNatClampNeg) (va_cpy (w0_near p1.toNatClampNeg) (w0_near ((p1 + 1).toNatClampNeg)) (0 : Int32).toNatClampNeg (0 : Int32).toNatClampNeg (12 : Int32).toNatClampNeg)) ((p1 + 1).toNatClampNeg) q_1.toNatClampNeg (((gF w0_near ((p1 + 1).toNatClampNeg) (va_cpy (w0_near p1.toNatClampNeg) (w0_near ((p1 + 1).toNatClampNeg)) (0 : Int32).toNatClampNeg (0 : Int32).toNatClampNeg (12 : Int32).toNatClampNeg)) ((p1 + 1).toNatClampNeg) q_1.toNatClampNeg) ||| ((1 : Int32) <<< (q_4 &&& 31))))) := hD
  refine lv_aload_n hx hb d_Pol_splitTop_81 rfl (lv_at hl 2 rfl) ?_
  refine va_get (D := (dC, dI)) (ci := 3) (v := .ref a0_near) (C := R_Pol) (T := T_Pol) (N := 6) hx hb htt hin_Pol hown hK hP 0 rfl rfl 0 (by decide) (htt _ kt_120) (fun _ h9 => h9) rfl d_Pol_splitTop_82 ?_
  refine lv_iload_n hx hb d_Pol_splitTop_85 rfl (lv_at hl 3 rfl) ?_
  refine lv_iconst (v := 1) hx hb d_Pol_splitTop_86 (by decide) ?_
  refine lv_iadd hx hb d_Pol_splitTop_87 ?_
  obtain ⟨hi_20, hm⟩ := gC_e hm
  have hj_21 := inb_lt hi_20
  refine gx_ald hx hb hK hP 1 2 rfl rfl (inb_vp hi_20) d_Pol_splitTop_88 ?_
  refine lv_iload hx hb d_Pol_splitTop_89 (lv_at hl 0 rfl) ?_
  refine lv_dup2_11 hx hb d_Pol_splitTop_91 rfl rfl ?_
  obtain ⟨hi_22, hm⟩ := gC_e hm
  refine va_iald hx hb hK hP (4 + (p1 + 1).toNatClampNeg) 0 (rows_get rfl hj_21) rfl (inb_vp hi_22) d_Pol_splitTop_92 ?_
  refine lv_iconst (v := 1) hx hb d_Pol_splitTop_93 (by decide) ?_
  refine lv_iload_n hx hb d_Pol_splitTop_94 rfl (lv_at hl 1 rfl) ?_
  refine lv_ishl hx hb d_Pol_splitTop_95 ?_
  refine lv_ior hx hb d_Pol_splitTop_96 ?_
  obtain ⟨hi_23, hm⟩ := gC_e hm
  refine va_iast hx hb hK hP hD hS (4 + (p1 + 1).toNatClampNeg) 0 (rows_get rfl hj_21) rfl (inb_vp hi_23) d_Pol_splitTop_97 (fun H locs hP hD hS => ?_)
  have hP := rows_setP rfl hP
  have hD := rows_setD rfl hD
  have hP : va_P (dC, dI) vwCl (wd_Pol_splitTop cI cJ cG cZ a0 a0_near a0_nodes a0_factors a0_powers a0_product r0_near v0_versionSeen (upd w0_nodes (p1 + 1).toNatClampNeg (w0_nodes p1.toNatClampNeg)) (vp_updL w0_factors (p1 + 1).toNatClampNeg (w0_factors p1.toNatClampNeg)) (gU (gU (gF w0_near ((p1 + 1).toNatClampNeg) (va_cpy (w0_near p1.toNatClampNeg) (w0_near ((p1 + 1).toNatClampNeg)) (0 : Int32).toNatClampNeg (0 : Int32).toNatClampNeg (12 : Int32).toNatClampNeg)) ((p1 + 1).toNatClampNeg) q_1.toNatClampNeg (((gF w0_near ((p1 + 1).toNatClampNeg) (va_cpy (w0_near p1.toNatClampNeg) (w0_near ((p1 + 1).toNatClampNeg)) (0 : Int32).toNatClampNeg (0 : Int32).toNatClampNeg (12 : Int32).toNatClampNeg)) ((p1 + 1).toNatClampNeg) q_1.toNatClampNeg) ||| ((1 : Int32) <<< (q_4 &&& 31)))) ((p1 + 1).toNatClampNeg) q_4.toNatClampNeg (((gU (gF w0_near ((p1 + 1).toNatClampNeg) (va_cpy (w0_near p1.toNatClampNeg) (w0_near ((p1 + 1).toNatClampNeg)) (0 : Int32).toNatClampNeg (0 : Int32).toNatClampNeg (12 : Int32).toNatClampNeg)) ((p1 + 1).toNatClampNeg) q_1.toNatClampNeg (((gF w0_near ((p1 + 1).toNatClampNeg) (va_cpy (w0_near p1.toNatClampNeg) (w0_near ((p1 + 1).toNatClampNeg)) (0 : Int32).toNatClampNeg (0 : Int32).toNatClampNeg (12 : Int32).toNatClampNeg)) ((p1 + 1).toNatClampNeg) q_1.toNatClampNeg) ||| ((1 : Int32) <<< (q_4 &&& 31)))) ((p1 + 1).toNatClampNeg) q_4.toNatClampNeg) ||| ((1 : Int32) <<< (q_1 &&& 31))))) H := hP
  have hD : va_D A (wd_Pol_splitTop cI cJ cG cZ a0 a0_near a0_nodes a0_factors a0_powers a0_product r0_near v0_versionSeen (upd w0_nodes (p1 + 1).toNatClampNeg (w0_nodes p1.toNatClampNeg)) (vp_updL w0_factors (p1 + 1).toNatClampNeg (w0_factors p1.toNatClampNeg)) (gU (gU (gF w0_near ((p1 + 1).toNatClampNeg) (va_cpy (w0_near p1.toNatClampNeg) (w0_near ((p1 + 1).toNatClampNeg)) (0 : Int32).toNatClampNeg (0 : Int32).toNatClampNeg (12 : Int32).toNatClampNeg)) ((p1 + 1).toNatClampNeg) q_1.toNatClampNeg (((gF w0_near ((p1 + 1).toNatClampNeg) (va_cpy (w0_near p1.toNatClampNeg) (w0_near ((p1 + 1).toNatClampNeg)) (0 : Int32).toNatClampNeg (0 : Int32).toNatClampNeg (12 : Int32).toNatClampNeg)) ((p1 + 1).toNatClampNeg) q_1.toNatClampNeg) ||| ((1 : Int32) <<< (q_4 &&& 31)))) ((p1 + 1).toNatClampNeg) q_4.toNatClampNeg (((gU (gF w0_near ((p1 + 1).toNatClampNeg) (va_cpy (w0_near p1.toNatClampNeg) (w0_near ((p1 + 1).toNatClampNeg)) (0 : Int32).toNatClampNeg (0 : Int32).toNatClampNeg (12 : Int32).toNatClampNeg)) ((p1 + 1).toNatClampNeg) q_1.toNatClampNeg (((gF w0_near ((p1 + 1).toNatClampNeg) (va_cpy (w0_near p1.toNatClampNeg) (w0_near ((p1 + 1).toNatClampNeg)) (0 : Int32).toNatClampNeg (0 : Int32).toNatClampNeg (12 : Int32).toNatClampNeg)) ((p1 + 1).toNatClampNeg) q_1.toNatClampNeg) ||| ((1 : Int32) <<< (q_4 &&& 31)))) ((p1 + 1).toNatClampNeg) q_4.toNatClampNeg) ||| ((1 : Int32) <<< (q_1 &&& 31))))) := hD
  refine lv_aload_n hx hb d_Pol_splitTop_98 rfl (lv_at hl 2 rfl) ?_
  refine va_get (D := (dC, dI)) (ci := 3) (v := .ref a0_near) (C := R_Pol) (T := T_Pol) (N := 6) hx hb htt hin_Pol hown hK hP 0 rfl rfl 0 (by decide) (htt _ kt_120) (fun _ h9 => h9) rfl d_Pol_splitTop_99 ?_
  refine lv_iload_n hx hb d_Pol_splitTop_102 rfl (lv_at hl 3 rfl) ?_
  obtain ⟨hi_24, hm⟩ := gC_e hm
  have hj_25 := inb_lt hi_24
  refine gx_ald hx hb hK hP 1 2 rfl rfl (inb_vp hi_24) d_Pol_splitTop_103 ?_
  refine lv_astore (lv' := [(5, .ref (r0_near p1.toNatClampNeg)), (4, .int q_4), (3, .int q_1), (0, .ref a0), (1, .int p1), (2, .int p2)]) hx hb d_Pol_splitTop_104 hl (by decide) rfl (fun ls hl => ?_)
  refine lv_aload hx hb d_Pol_splitTop_106 (lv_at hl 0 rfl) ?_
  refine lv_iload_n hx hb d_Pol_splitTop_108 rfl (lv_at hl 2 rfl) ?_
  refine lv_dup2_11 hx hb d_Pol_splitTop_109 rfl rfl ?_
  obtain ⟨hi_26, hm⟩ := gC_e hm
  refine va_iald hx hb hK hP (4 + p1.toNatClampNeg) 0 (rows_get rfl hj_25) rfl (inb_vp hi_26) d_Pol_splitTop_110 ?_
  refine lv_aload hx hb d_Pol_splitTop_111 (lv_at hl 0 rfl) ?_
  refine lv_iload hx hb d_Pol_splitTop_113 (lv_at hl 1 rfl) ?_
  obtain ⟨hi_27, hm⟩ := gC_e hm
  refine va_iald hx hb hK hP (4 + p1.toNatClampNeg) 0 (rows_get rfl hj_25) rfl (inb_vp hi_27) d_Pol_splitTop_115 ?_
  refine lv_ior hx hb d_Pol_splitTop_116 ?_
  obtain ⟨hi_28, hm⟩ := gC_e hm
  refine va_iast hx hb hK hP hD hS (4 + p1.toNatClampNeg) 0 (rows_get rfl hj_25) rfl (inb_vp hi_28) d_Pol_splitTop_117 (fun H locs hP hD hS => ?_)
  have hP := rows_setP rfl hP
  have hD := rows_setD rfl hD
  have hP : va_P (dC, dI) vwCl (wd_Pol_splitTop cI cJ cG cZ a0 a0_near a0_nodes a0_factors a0_powers a0_product r0_near v0_versionSeen (upd w0_nodes (p1 + 1).toNatClampNeg (w0_nodes p1.toNatClampNeg)) (vp_updL w0_factors (p1 + 1).toNatClampNeg (w0_factors p1.toNatClampNeg)) (gU (gU (gU (gF w0_near ((p1 + 1).toNatClampNeg) (va_cpy (w0_near p1.toNatClampNeg) (w0_near ((p1 + 1).toNatClampNeg)) (0 : Int32).toNatClampNeg (0 : Int32).toNatClampNeg (12 : Int32).toNatClampNeg)) ((p1 + 1).toNatClampNeg) q_1.toNatClampNeg (((gF w0_near ((p1 + 1).toNatClampNeg) (va_cpy (w0_near p1.toNatClampNeg) (w0_near ((p1 + 1).toNatClampNeg)) (0 : Int32).toNatClampNeg (0 : Int32).toNatClampNeg (12 : Int32).toNatClampNeg)) ((p1 + 1).toNatClampNeg) q_1.toNatClampNeg) ||| ((1 : Int32) <<< (q_4 &&& 31)))) ((p1 + 1).toNatClampNeg) q_4.toNatClampNeg (((gU (gF w0_near ((p1 + 1).toNatClampNeg) (va_cpy (w0_near p1.toNatClampNeg) (w0_near ((p1 + 1).toNatClampNeg)) (0 : Int32).toNatClampNeg (0 : Int32).toNatClampNeg (12 : Int32).toNatClampNeg)) ((p1 + 1).toNatClampNeg) q_1.toNatClampNeg (((gF w0_near ((p1 + 1).toNatClampNeg) (va_cpy (w0_near p1.toNatClampNeg) (w0_near ((p1 + 1).toNatClampNeg)) (0 : Int32).toNatClampNeg (0 : Int32).toNatClampNeg (12 : Int32).toNatClampNeg)) ((p1 + 1).toNatClampNeg) q_1.toNatClampNeg) ||| ((1 : Int32) <<< (q_4 &&& 31)))) ((p1 + 1).toNatClampNeg) q_4.toNatClampNeg) ||| ((1 : Int32) <<< (q_1 &&& 31)))) p1.toNatClampNeg q_1.toNatClampNeg (((gU (gU (gF w0_near ((p1 + 1).toNatClampNeg) (va_cpy (w0_near p1.toNatClampNeg) (w0_near ((p1 + 1).toNatClampNeg)) (0 : Int32).toNatClampNeg (0 : Int32).toNatClampNeg (12 : Int32).toNatClampNeg)) ((p1 + 1).toNatClampNeg) q_1.toNatClampNeg (((gF w0_near ((p1 + 1).toNatClampNeg) (va_cpy (w0_near p1.toNatClampNeg) (w0_near ((p1 + 1).toNatClampNeg)) (0 : Int32).toNatClampNeg (0 : Int32).toNatClampNeg (12 : Int32).toNatClampNeg)) ((p1 + 1).toNatClampNeg) q_1.toNatClampNeg) ||| ((1 : Int32) <<< (q_4 &&& 31)))) ((p1 + 1).toNatClampNeg) q_4.toNatClampNeg (((gU (gF w0_near ((p1 + 1).toNatClampNeg) (va_cpy (w0_near p1.toNatClampNeg) (w0_near ((p1 + 1).toNatClampNeg)) (0 : Int32).toNatClampNeg (0 : Int32).toNatClampNeg (12 : Int32).toNatClampNeg)) ((p1 + 1).toNatClampNeg) q_1.toNatClampNeg (((gF w0_near ((p1 + 1).toNatClampNeg) (va_cpy (w0_near p1.toNatClampNeg) (w0_near ((p1 + 1).toNatClampNeg)) (0 : Int32).toNatClampNeg (0 : Int32).toNatClampNeg (12 : Int32).toNatClampNeg)) ((p1 + 1).toNatClampNeg) q_1.toNatClampNeg) ||| ((1 : Int32) <<< (q_4 &&& 31)))) ((p1 + 1).toNatClampNeg) q_4.toNatClampNeg) ||| ((1 : Int32) <<< (q_1 &&& 31)))) p1.toNatClampNeg q_1.toNatClampNeg) ||| ((gU (gU (gF w0_near ((p1 + 1).toNatClampNeg) (va_cpy (w0_near p1.toNatClampNeg) (w0_near ((p1 + 1).toNatClampNeg)) (0 : Int32).toNatClampNeg (0 : Int32).toNatClampNeg (12 : Int32).toNatClampNeg)) ((p1 + 1).toNatClampNeg) q_1.toNatClampNeg (((gF w0_near ((p1 + 1).toNatClampNeg) (va_cpy (w0_near p1.toNatClampNeg) (w0_near ((p1 + 1).toNatClampNeg)) (0 : Int32).toNatClampNeg (0 : Int32).toNatClampNeg (12 : Int32).toNatClampNeg)) ((p1 + 1).toNatClampNeg) q_1.toNatClampNeg) ||| ((1 : Int32) <<< (q_4 &&& 31)))) ((p1 + 1).toNatClampNeg) q_4.toNatClampNeg (((gU (gF w0_near ((p1 + 1).toNatClampNeg) (va_cpy (w0_near p1.toNatClampNeg) (w0_near ((p1 + 1).toNatClampNeg)) (0 : Int32).toNatClampNeg (0 : Int32).toNatClampNeg (12 : Int32).toNatClampNeg)) ((p1 + 1).toNatClampNeg) q_1.toNatClampNeg (((gF w0_near ((p1 + 1).toNatClampNeg) (va_cpy (w0_near p1.toNatClampNeg) (w0_near ((p1 + 1).toNatClampNeg)) (0 : Int32).toNatClampNeg (0 : Int32).toNatClampNeg (12 : Int32).toNatClampNeg)) ((p1 + 1).toNatClampNeg) q_1.toNatClampNeg) ||| ((1 : Int32) <<< (q_4 &&& 31)))) ((p1 + 1).toNatClampNeg) q_4.toNatClampNeg) ||| ((1 : Int32) <<< (q_1 &&& 31)))) p1.toNatClampNeg q_4.toNatClampNeg)))) H := hP
  have hD : va_D A (wd_Pol_splitTop cI cJ cG cZ a0 a0_near a0_nodes a0_factors a0_powers a0_product r0_near v0_versionSeen (upd w0_nodes (p1 + 1).toNatClampNeg (w0_nodes p1.toNatClampNeg)) (vp_updL w0_factors (p1 + 1).toNatClampNeg (w0_factors p1.toNatClampNeg)) (gU (gU (gU (gF w0_near ((p1 + 1).toNatClampNeg) (va_cpy (w0_near p1.toNatClampNeg) (w0_near ((p1 + 1).toNatClampNeg)) (0 : Int32).toNatClampNeg (0 : Int32).toNatClampNeg (12 : Int32).toNatClampNeg)) ((p1 + 1).toNatClampNeg) q_1.toNatClampNeg (((gF w0_near ((p1 + 1).toNatClampNeg) (va_cpy (w0_near p1.toNatClampNeg) (w0_near ((p1 + 1).toNatClampNeg)) (0 : Int32).toNatClampNeg (0 : Int32).toNatClampNeg (12 : Int32).toNatClampNeg)) ((p1 + 1).toNatClampNeg) q_1.toNatClampNeg) ||| ((1 : Int32) <<< (q_4 &&& 31)))) ((p1 + 1).toNatClampNeg) q_4.toNatClampNeg (((gU (gF w0_near ((p1 + 1).toNatClampNeg) (va_cpy (w0_near p1.toNatClampNeg) (w0_near ((p1 + 1).toNatClampNeg)) (0 : Int32).toNatClampNeg (0 : Int32).toNatClampNeg (12 : Int32).toNatClampNeg)) ((p1 + 1).toNatClampNeg) q_1.toNatClampNeg (((gF w0_near ((p1 + 1).toNatClampNeg) (va_cpy (w0_near p1.toNatClampNeg) (w0_near ((p1 + 1).toNatClampNeg)) (0 : Int32).toNatClampNeg (0 : Int32).toNatClampNeg (12 : Int32).toNatClampNeg)) ((p1 + 1).toNatClampNeg) q_1.toNatClampNeg) ||| ((1 : Int32) <<< (q_4 &&& 31)))) ((p1 + 1).toNatClampNeg) q_4.toNatClampNeg) ||| ((1 : Int32) <<< (q_1 &&& 31)))) p1.toNatClampNeg q_1.toNatClampNeg (((gU (gU (gF w0_near ((p1 + 1).toNatClampNeg) (va_cpy (w0_near p1.toNatClampNeg) (w0_near ((p1 + 1).toNatClampNeg)) (0 : Int32).toNatClampNeg (0 : Int32).toNatClampNeg (12 : Int32).toNatClampNeg)) ((p1 + 1).toNatClampNeg) q_1.toNatClampNeg (((gF w0_near ((p1 + 1).toNatClampNeg) (va_cpy (w0_near p1.toNatClampNeg) (w0_near ((p1 + 1).toNatClampNeg)) (0 : Int32).toNatClampNeg (0 : Int32).toNatClampNeg (12 : Int32).toNatClampNeg)) ((p1 + 1).toNatClampNeg) q_1.toNatClampNeg) ||| ((1 : Int32) <<< (q_4 &&& 31)))) ((p1 + 1).toNatClampNeg) q_4.toNatClampNeg (((gU (gF w0_near ((p1 + 1).toNatClampNeg) (va_cpy (w0_near p1.toNatClampNeg) (w0_near ((p1 + 1).toNatClampNeg)) (0 : Int32).toNatClampNeg (0 : Int32).toNatClampNeg (12 : Int32).toNatClampNeg)) ((p1 + 1).toNatClampNeg) q_1.toNatClampNeg (((gF w0_near ((p1 + 1).toNatClampNeg) (va_cpy (w0_near p1.toNatClampNeg) (w0_near ((p1 + 1).toNatClampNeg)) (0 : Int32).toNatClampNeg (0 : Int32).toNatClampNeg (12 : Int32).toNatClampNeg)) ((p1 + 1).toNatClampNeg) q_1.toNatClampNeg) ||| ((1 : Int32) <<< (q_4 &&& 31)))) ((p1 + 1).toNatClampNeg) q_4.toNatClampNeg) ||| ((1 : Int32) <<< (q_1 &&& 31)))) p1.toNatClampNeg q_1.toNatClampNeg) ||| ((gU (gU (gF w0_near ((p1 + 1).toNatClampNeg) (va_cpy (w0_near p1.toNatClampNeg) (w0_near ((p1 + 1).toNatClampNeg)) (0 : Int32).toNatClampNeg (0 : Int32).toNatClampNeg (12 : Int32).toNatClampNeg)) ((p1 + 1).toNatClampNeg) q_1.toNatClampNeg (((gF w0_near ((p1 + 1).toNatClampNeg) (va_cpy (w0_near p1.toNatClampNeg) (w0_near ((p1 + 1).toNatClampNeg)) (0 : Int32).toNatClampNeg (0 : Int32).toNatClampNeg (12 : Int32).toNatClampNeg)) ((p1 + 1).toNatClampNeg) q_1.toNatClampNeg) ||| ((1 : Int32) <<< (q_4 &&& 31)))) ((p1 + 1).toNatClampNeg) q_4.toNatClampNeg (((gU (gF w0_near ((p1 + 1).toNatClampNeg) (va_cpy (w0_near p1.toNatClampNeg) (w0_near ((p1 + 1).toNatClampNeg)) (0 : Int32).toNatClampNeg (0 : Int32).toNatClampNeg (12 : Int32).toNatClampNeg)) ((p1 + 1).toNatClampNeg) q_1.toNatClampNeg (((gF w0_near ((p1 + 1).toNatClampNeg) (va_cpy (w0_near p1.toNatClampNeg) (w0_near ((p1 + 1).toNatClampNeg)) (0 : Int32).toNatClampNeg (0 : Int32).toNatClampNeg (12 : Int32).toNatClampNeg)) ((p1 + 1).toNatClampNeg) q_1.toNatClampNeg) ||| ((1 : Int32) <<< (q_4 &&& 31)))) ((p1 + 1).toNatClampNeg) q_4.toNatClampNeg) ||| ((1 : Int32) <<< (q_1 &&& 31)))) p1.toNatClampNeg q_4.toNatClampNeg)))) := hD
  refine lv_iconst (v := 0) hx hb d_Pol_splitTop_118 (by decide) ?_
  refine lv_istore (lv' := [(6, .int 0), (5, .ref (r0_near p1.toNatClampNeg)), (4, .int q_4), (3, .int q_1), (0, .ref a0), (1, .int p1), (2, .int p2)]) hx hb d_Pol_splitTop_119 hl (by decide) rfl (fun ls hl => ?_)
  refine gL_e (P := (fun (z_121 : Int32 × (Nat → Nat → Int32)) => ∀ (x6_29 : Int32), ∀ (w0_near_30 : Nat → Nat → Int32), z_121 = (x6_29, w0_near_30) → ∀ (ls : Array Slot) (H : Heap) (locs : List Loc), lv_has ls 7 [(0, .ref a0), (1, .int p1), (3, .int q_1), (4, .int q_4), (5, .ref (r0_near p1.toNatClampNeg)), (6, .int x6_29)] → va_P (dC, dI) vwCl (wd_Pol_splitTop cI cJ cG cZ a0 a0_near a0_nodes a0_factors a0_powers a0_product r0_near v0_versionSeen (upd w0_nodes (p1 + 1).toNatClampNeg (w0_nodes p1.toNatClampNeg)) (vp_updL w0_factors (p1 + 1).toNatClampNeg (w0_factors p1.toNatClampNeg)) w0_near_30) H → va_D A (wd_Pol_splitTop cI cJ cG cZ a0 a0_near a0_nodes a0_factors a0_powers a0_product r0_near v0_versionSeen (upd w0_nodes (p1 + 1).toNatClampNeg (w0_nodes p1.toNatClampNeg)) (vp_updL w0_factors (p1 + 1).toNatClampNeg (w0_factors p1.toNatClampNeg)) w0_near_30) → va_S A s.heap H locs → W p l e (headSpec us_Pol_splitTop rm_Pol_splitTop).room s m ([.ref a0, .int p1, .int p2] : List Value).toArray below meth c H locs 0 0 (MQ below (va_Qv (fun (_ : Unit) => True) (fun _ t => PoS (dC, dI) (tyL cI cJ cG cZ) (wd_Pol_splitTop cI cJ cG cZ a0 a0_near a0_nodes a0_factors a0_powers a0_product r0_near v0_versionSeen o_w0_nodes o_w0_factors o_w0_near) A t) A) ([.ref a0, .int p1, .int p2] : List Value).toArray s 0 0 A) (F0 m 121 ls []))) hm (fun k_121 z_121 ih_121 hm => ?_) _ _ rfl ls H locs (lv_sub hl [4, 5, 3, 2, 1, 0] rfl) hP hD hS
  intro x6_29 w0_near_30 hz ls H locs hl hP hD hS
  subst hz
  dsimp only at hm
  refine lv_iload hx hb d_Pol_splitTop_121 (lv_at hl 5 rfl) ?_
  refine lv_bipush (v := 12) hx hb d_Pol_splitTop_123 (by decide) ?_
  refine lv_icmp_ge (tgt := 158) hx hb d_Pol_splitTop_125 (by decide) (fun c_31 => ?_) (fun c_31 => ?_)
  · have hm := ite_t c_31 hm
    refine lv_aload_n hx hb d_Pol_splitTop_158 rfl (lv_at hl 0 rfl) ?_
    refine va_get (D := (dC, dI)) (ci := 3) (v := .ref a0_nodes) (C := R_Pol) (T := T_Pol) (N := 6) hx hb htt hin_Pol hown hK hP 0 rfl rfl 1 (by decide) (htt _ kt_121) (fun _ h9 => h9) rfl d_Pol_splitTop_159 ?_
    refine lv_iload_n hx hb d_Pol_splitTop_162 rfl (lv_at hl 1 rfl) ?_
    refine lv_dup2_11 hx hb d_Pol_splitTop_163 rfl rfl ?_
    obtain ⟨hi_32, hm⟩ := gC_e hm
    refine va_iald hx hb hK hP 2 0 rfl rfl (inb_vp hi_32) d_Pol_splitTop_164 ?_
    refine lv_iconst (v := 1) hx hb d_Pol_splitTop_165 (by decide) ?_
    refine lv_iload hx hb d_Pol_splitTop_166 (lv_at hl 3 rfl) ?_
    refine lv_ishl hx hb d_Pol_splitTop_168 ?_
    refine lv_iconst (v := (-1)) hx hb d_Pol_splitTop_169 (by decide) ?_
    refine lv_ixor hx hb d_Pol_splitTop_170 ?_
    refine lv_iand hx hb d_Pol_splitTop_171 ?_
    obtain ⟨hi_33, hm⟩ := gC_e hm
    refine va_iast hx hb hK hP hD hS 2 0 rfl rfl (inb_vp hi_33) d_Pol_splitTop_172 (fun H locs hP hD hS => ?_)
    have hP : va_P (dC, dI) vwCl (wd_Pol_splitTop cI cJ cG cZ a0 a0_near a0_nodes a0_factors a0_powers a0_product r0_near v0_versionSeen (upd (upd w0_nodes (p1 + 1).toNatClampNeg (w0_nodes p1.toNatClampNeg)) p1.toNatClampNeg (((upd w0_nodes (p1 + 1).toNatClampNeg (w0_nodes p1.toNatClampNeg)) p1.toNatClampNeg) &&& (((1 : Int32) <<< (q_4 &&& 31)) ^^^ (-1)))) (vp_updL w0_factors (p1 + 1).toNatClampNeg (w0_factors p1.toNatClampNeg)) w0_near_30) H := hP
    have hD : va_D A (wd_Pol_splitTop cI cJ cG cZ a0 a0_near a0_nodes a0_factors a0_powers a0_product r0_near v0_versionSeen (upd (upd w0_nodes (p1 + 1).toNatClampNeg (w0_nodes p1.toNatClampNeg)) p1.toNatClampNeg (((upd w0_nodes (p1 + 1).toNatClampNeg (w0_nodes p1.toNatClampNeg)) p1.toNatClampNeg) &&& (((1 : Int32) <<< (q_4 &&& 31)) ^^^ (-1)))) (vp_updL w0_factors (p1 + 1).toNatClampNeg (w0_factors p1.toNatClampNeg)) w0_near_30) := hD
    cases hm
    exact W.vret hx hb hr (fun t ht hW => ⟨⟨(), rfl, trivial, by rw [ht]; exact hP, va_K.moved hW.alike hK, hD⟩, hS.F ht⟩) hS.2.2 d_Pol_splitTop_173
  · have hm := ite_f c_31 hm
    refine lv_aload hx hb d_Pol_splitTop_128 (lv_at hl 4 rfl) ?_
    refine lv_iload hx hb d_Pol_splitTop_130 (lv_at hl 3 rfl) ?_
    obtain ⟨hi_34, hm⟩ := gC_e hm
    refine va_iald hx hb hK hP (4 + p1.toNatClampNeg) 0 (rows_get rfl hj_25) rfl (inb_vp hi_34) d_Pol_splitTop_132 ?_
    refine lv_iload hx hb d_Pol_splitTop_133 (lv_at hl 5 rfl) ?_
    refine lv_ishr hx hb d_Pol_splitTop_135 ?_
    refine lv_iconst (v := 1) hx hb d_Pol_splitTop_136 (by decide) ?_
    refine lv_iand hx hb d_Pol_splitTop_137 ?_
    refine lv_if_eq (tgt := 152) hx hb d_Pol_splitTop_138 (by decide) (fun c_35 => ?_) (fun c_35 => ?_)
    · have hm := ite_t c_35 hm
      obtain ⟨x6_36, ex6_36⟩ : ∃ y : Int32, y = x6_29 + 1 := ⟨_, rfl⟩
      have hm := gB_at ex6_36 hm
      refine lv_iinc (v := x6_36) (lv' := [(6, .int x6_36), (0, .ref a0), (1, .int p1), (3, .int q_1), (4, .int q_4), (5, .ref (r0_near p1.toNatClampNeg))]) hx hb d_Pol_splitTop_152 hl (k := 5) rfl (by rw [ex6_36]; rfl) (by decide) rfl (fun ls hl => ?_)
      refine lv_goto (tgt := 121) hx hb d_Pol_splitTop_155 (by decide) ?_
      exact ih_121 _ hm _ _ rfl ls H locs (lv_sub hl [1, 2, 3, 4, 5, 0] rfl) hP hD hS
    · have hm := ite_f c_35 hm
      refine lv_aload hx hb d_Pol_splitTop_141 (lv_at hl 4 rfl) ?_
      refine lv_iload hx hb d_Pol_splitTop_143 (lv_at hl 5 rfl) ?_
      refine lv_dup2_11 hx hb d_Pol_splitTop_145 rfl rfl ?_
      obtain ⟨hi_37, hm⟩ := gC_e hm
      refine va_iald hx hb hK hP (4 + p1.toNatClampNeg) 0 (rows_get rfl hj_25) rfl (inb_vp hi_37) d_Pol_splitTop_146 ?_
      refine lv_iconst (v := 1) hx hb d_Pol_splitTop_147 (by decide) ?_
      refine lv_iload_n hx hb d_Pol_splitTop_148 rfl (lv_at hl 2 rfl) ?_
      refine lv_ishl hx hb d_Pol_splitTop_149 ?_
      refine lv_ior hx hb d_Pol_splitTop_150 ?_
      obtain ⟨hi_38, hm⟩ := gC_e hm
      refine va_iast hx hb hK hP hD hS (4 + p1.toNatClampNeg) 0 (rows_get rfl hj_25) rfl (inb_vp hi_38) d_Pol_splitTop_151 (fun H locs hP hD hS => ?_)
      have hP := rows_setP rfl hP
      have hD := rows_setD rfl hD
      have hP : va_P (dC, dI) vwCl (wd_Pol_splitTop cI cJ cG cZ a0 a0_near a0_nodes a0_factors a0_powers a0_product r0_near v0_versionSeen (upd w0_nodes (p1 + 1).toNatClampNeg (w0_nodes p1.toNatClampNeg)) (vp_updL w0_factors (p1 + 1).toNatClampNeg (w0_factors p1.toNatClampNeg)) (gU w0_near_30 p1.toNatClampNeg x6_29.toNatClampNeg ((w0_near_30 p1.toNatClampNeg x6_29.toNatClampNeg) ||| ((1 : Int32) <<< (q_1 &&& 31))))) H := hP
      have hD : va_D A (wd_Pol_splitTop cI cJ cG cZ a0 a0_near a0_nodes a0_factors a0_powers a0_product r0_near v0_versionSeen (upd w0_nodes (p1 + 1).toNatClampNeg (w0_nodes p1.toNatClampNeg)) (vp_updL w0_factors (p1 + 1).toNatClampNeg (w0_factors p1.toNatClampNeg)) (gU w0_near_30 p1.toNatClampNeg x6_29.toNatClampNeg ((w0_near_30 p1.toNatClampNeg x6_29.toNatClampNeg) ||| ((1 : Int32) <<< (q_1 &&& 31))))) := hD
      obtain ⟨x6_39, ex6_39⟩ : ∃ y : Int32, y = x6_29 + 1 := ⟨_, rfl⟩
      have hm := gB_at ex6_39 hm
      refine lv_iinc (v := x6_39) (lv' := [(6, .int x6_39), (0, .ref a0), (1, .int p1), (3, .int q_1), (4, .int q_4), (5, .ref (r0_near p1.toNatClampNeg))]) hx hb d_Pol_splitTop_152 hl (k := 5) rfl (by rw [ex6_39]; rfl) (by decide) rfl (fun ls hl => ?_)
      refine lv_goto (tgt := 121) hx hb d_Pol_splitTop_155 (by decide) ?_
      exact ih_121 _ hm _ _ rfl ls H locs (lv_sub hl [1, 2, 3, 4, 5, 0] rfl) hP hD hS
theorem d_Pol_update_0 : decode prog_6_method_4_code 0 = .ok (.aload_n 0, 1) := by decide +kernel
theorem d_Pol_update_1 : decode prog_6_method_4_code 1 = .ok (.getfield 30, 3) := by decide +kernel
theorem d_Pol_update_4 : decode prog_6_method_4_code 4 = .ok (.aload_n 1, 1) := by decide +kernel
theorem d_Pol_update_5 : decode prog_6_method_4_code 5 = .ok (.getfield 42, 3) := by decide +kernel
theorem d_Pol_update_8 : decode prog_6_method_4_code 8 = .ok (.if_icmp .ne 4, 3) := by decide +kernel
theorem d_Pol_update_11 : decode prog_6_method_4_code 11 = .ok (.return_, 1) := by decide +kernel
theorem d_Pol_update_12 : decode prog_6_method_4_code 12 = .ok (.aload_n 0, 1) := by decide +kernel
theorem d_Pol_update_13 : decode prog_6_method_4_code 13 = .ok (.aload_n 1, 1) := by decide +kernel
theorem d_Pol_update_14 : decode prog_6_method_4_code 14 = .ok (.getfield 42, 3) := by decide +kernel
theorem d_Pol_update_17 : decode prog_6_method_4_code 17 = .ok (.putfield 30, 3) := by decide +kernel
theorem d_Pol_update_20 : decode prog_6_method_4_code 20 = .ok (.aload_n 0, 1) := by decide +kernel
theorem d_Pol_update_21 : decode prog_6_method_4_code 21 = .ok (.getfield 24, 3) := by decide +kernel
theorem d_Pol_update_24 : decode prog_6_method_4_code 24 = .ok (.lconst 0, 1) := by decide +kernel
theorem d_Pol_update_25 : decode prog_6_method_4_code 25 = .ok (.invokestatic 45, 3) := by decide +kernel
theorem d_Pol_update_28 : decode prog_6_method_4_code 28 = .ok (.aload_n 1, 1) := by decide +kernel
theorem d_Pol_update_29 : decode prog_6_method_4_code 29 = .ok (.getfield 51, 3) := by decide +kernel
theorem d_Pol_update_32 : decode prog_6_method_4_code 32 = .ok (.iconst 0, 1) := by decide +kernel
theorem d_Pol_update_33 : decode prog_6_method_4_code 33 = .ok (.aload_n 0, 1) := by decide +kernel
theorem d_Pol_update_34 : decode prog_6_method_4_code 34 = .ok (.getfield 13, 3) := by decide +kernel
theorem d_Pol_update_37 : decode prog_6_method_4_code 37 = .ok (.iconst 0, 1) := by decide +kernel
theorem d_Pol_update_38 : decode prog_6_method_4_code 38 = .ok (.aaload, 1) := by decide +kernel
theorem d_Pol_update_39 : decode prog_6_method_4_code 39 = .ok (.iconst 0, 1) := by decide +kernel
theorem d_Pol_update_40 : decode prog_6_method_4_code 40 = .ok (.bipush 12, 2) := by decide +kernel
theorem d_Pol_update_42 : decode prog_6_method_4_code 42 = .ok (.invokestatic 53, 3) := by decide +kernel
theorem d_Pol_update_45 : decode prog_6_method_4_code 45 = .ok (.aload_n 0, 1) := by decide +kernel
theorem d_Pol_update_46 : decode prog_6_method_4_code 46 = .ok (.getfield 16, 3) := by decide +kernel
theorem d_Pol_update_49 : decode prog_6_method_4_code 49 = .ok (.iconst 0, 1) := by decide +kernel
theorem d_Pol_update_50 : decode prog_6_method_4_code 50 = .ok (.aload_n 1, 1) := by decide +kernel
theorem d_Pol_update_51 : decode prog_6_method_4_code 51 = .ok (.invokevirtual 59, 3) := by decide +kernel
theorem d_Pol_update_54 : decode prog_6_method_4_code 54 = .ok (.iastore, 1) := by decide +kernel
theorem d_Pol_update_55 : decode prog_6_method_4_code 55 = .ok (.aload_n 0, 1) := by decide +kernel
theorem d_Pol_update_56 : decode prog_6_method_4_code 56 = .ok (.getfield 20, 3) := by decide +kernel
theorem d_Pol_update_59 : decode prog_6_method_4_code 59 = .ok (.iconst 0, 1) := by decide +kernel
theorem d_Pol_update_60 : decode prog_6_method_4_code 60 = .ok (.lconst 0, 1) := by decide +kernel
theorem d_Pol_update_61 : decode prog_6_method_4_code 61 = .ok (.lastore, 1) := by decide +kernel
theorem d_Pol_update_62 : decode prog_6_method_4_code 62 = .ok (.iconst 0, 1) := by decide +kernel
theorem d_Pol_update_63 : decode prog_6_method_4_code 63 = .ok (.istore_n 2, 1) := by decide +kernel
theorem d_Pol_update_64 : decode prog_6_method_4_code 64 = .ok (.iconst 0, 1) := by decide +kernel
theorem d_Pol_update_65 : decode prog_6_method_4_code 65 = .ok (.istore_n 3, 1) := by decide +kernel
theorem d_Pol_update_66 : decode prog_6_method_4_code 66 = .ok (.iload_n 3, 1) := by decide +kernel
theorem d_Pol_update_67 : decode prog_6_method_4_code 67 = .ok (.ldc 63, 2) := by decide +kernel
theorem d_Pol_update_69 : decode prog_6_method_4_code 69 = .ok (.if_icmp .ge 83, 3) := by decide +kernel
theorem d_Pol_update_72 : decode prog_6_method_4_code 72 = .ok (.iload_n 2, 1) := by decide +kernel
theorem d_Pol_update_73 : decode prog_6_method_4_code 73 = .ok (.ifCond .lt 79, 3) := by decide +kernel
theorem d_Pol_update_76 : decode prog_6_method_4_code 76 = .ok (.aload_n 0, 1) := by decide +kernel
theorem d_Pol_update_77 : decode prog_6_method_4_code 77 = .ok (.iload_n 2, 1) := by decide +kernel
theorem d_Pol_update_78 : decode prog_6_method_4_code 78 = .ok (.invokevirtual 64, 3) := by decide +kernel
theorem d_Pol_update_81 : decode prog_6_method_4_code 81 = .ok (.aload_n 0, 1) := by decide +kernel
theorem d_Pol_update_82 : decode prog_6_method_4_code 82 = .ok (.iload_n 2, 1) := by decide +kernel
theorem d_Pol_update_83 : decode prog_6_method_4_code 83 = .ok (.aload_n 0, 1) := by decide +kernel
theorem d_Pol_update_84 : decode prog_6_method_4_code 84 = .ok (.getfield 13, 3) := by decide +kernel
theorem d_Pol_update_87 : decode prog_6_method_4_code 87 = .ok (.iload_n 2, 1) := by decide +kernel
theorem d_Pol_update_88 : decode prog_6_method_4_code 88 = .ok (.aaload, 1) := by decide +kernel
theorem d_Pol_update_89 : decode prog_6_method_4_code 89 = .ok (.aload_n 0, 1) := by decide +kernel
theorem d_Pol_update_90 : decode prog_6_method_4_code 90 = .ok (.iload_n 2, 1) := by decide +kernel
theorem d_Pol_update_91 : decode prog_6_method_4_code 91 = .ok (.invokevirtual 68, 3) := by decide +kernel
theorem d_Pol_update_94 : decode prog_6_method_4_code 94 = .ok (.iaload, 1) := by decide +kernel
theorem d_Pol_update_95 : decode prog_6_method_4_code 95 = .ok (.aload_n 0, 1) := by decide +kernel
theorem d_Pol_update_96 : decode prog_6_method_4_code 96 = .ok (.getfield 16, 3) := by decide +kernel
theorem d_Pol_update_99 : decode prog_6_method_4_code 99 = .ok (.iload_n 2, 1) := by decide +kernel
theorem d_Pol_update_100 : decode prog_6_method_4_code 100 = .ok (.iaload, 1) := by decide +kernel
theorem d_Pol_update_101 : decode prog_6_method_4_code 101 = .ok (.iand, 1) := by decide +kernel
theorem d_Pol_update_102 : decode prog_6_method_4_code 102 = .ok (.invokevirtual 72, 3) := by decide +kernel
theorem d_Pol_update_105 : decode prog_6_method_4_code 105 = .ok (.istore 4, 2) := by decide +kernel
theorem d_Pol_update_107 : decode prog_6_method_4_code 107 = .ok (.iload 4, 2) := by decide +kernel
theorem d_Pol_update_109 : decode prog_6_method_4_code 109 = .ok (.ifCond .eq 11, 3) := by decide +kernel
theorem d_Pol_update_112 : decode prog_6_method_4_code 112 = .ok (.iload_n 2, 1) := by decide +kernel
theorem d_Pol_update_113 : decode prog_6_method_4_code 113 = .ok (.iconst 1, 1) := by decide +kernel
theorem d_Pol_update_114 : decode prog_6_method_4_code 114 = .ok (.iadd, 1) := by decide +kernel
theorem d_Pol_update_115 : decode prog_6_method_4_code 115 = .ok (.bipush 68, 2) := by decide +kernel
theorem d_Pol_update_117 : decode prog_6_method_4_code 117 = .ok (.if_icmp .lt 19, 3) := by decide +kernel
theorem d_Pol_update_120 : decode prog_6_method_4_code 120 = .ok (.aload_n 0, 1) := by decide +kernel
theorem d_Pol_update_121 : decode prog_6_method_4_code 121 = .ok (.aload_n 0, 1) := by decide +kernel
theorem d_Pol_update_122 : decode prog_6_method_4_code 122 = .ok (.getfield 20, 3) := by decide +kernel
theorem d_Pol_update_125 : decode prog_6_method_4_code 125 = .ok (.iload_n 2, 1) := by decide +kernel
theorem d_Pol_update_126 : decode prog_6_method_4_code 126 = .ok (.laload, 1) := by decide +kernel
theorem d_Pol_update_127 : decode prog_6_method_4_code 127 = .ok (.invokevirtual 76, 3) := by decide +kernel
theorem d_Pol_update_130 : decode prog_6_method_4_code 130 = .ok (.iinc 2 (-1), 3) := by decide +kernel
theorem d_Pol_update_133 : decode prog_6_method_4_code 133 = .ok (.goto 13, 3) := by decide +kernel
theorem d_Pol_update_136 : decode prog_6_method_4_code 136 = .ok (.aload_n 0, 1) := by decide +kernel
theorem d_Pol_update_137 : decode prog_6_method_4_code 137 = .ok (.iload_n 2, 1) := by decide +kernel
theorem d_Pol_update_138 : decode prog_6_method_4_code 138 = .ok (.iload 4, 2) := by decide +kernel
theorem d_Pol_update_140 : decode prog_6_method_4_code 140 = .ok (.invokevirtual 80, 3) := by decide +kernel
theorem d_Pol_update_143 : decode prog_6_method_4_code 143 = .ok (.iinc 2 1, 3) := by decide +kernel
theorem d_Pol_update_146 : decode prog_6_method_4_code 146 = .ok (.iinc 3 1, 3) := by decide +kernel
theorem d_Pol_update_149 : decode prog_6_method_4_code 149 = .ok (.goto (-83), 3) := by decide +kernel
theorem d_Pol_update_152 : decode prog_6_method_4_code 152 = .ok (.return_, 1) := by decide +kernel
abbrev wd_Pol_update (cI cJ cG cZ : ClassId) (a0 a1 a0_near a0_nodes a0_factors a0_powers a0_product a1_near a1_tail a1_head : Nat) (r0_near : Nat → Nat) (v0_versionSeen : Int32) (w0_nodes : Nat → Int32) (w0_factors : Nat → Int64) (w0_powers : Nat → Int64) (w0_product : Nat → Int64) (v1_nodes : Int32) (v1_arcCount : Int32) (v1_version : Int32) (w1_near : Nat → Int32) (w0_near : Nat → Nat → Int32) : va_W := [(a0, .inr (3, [.ref a0_near, .ref a0_nodes, .ref a0_factors, .ref a0_powers, .ref a0_product, .int v0_versionSeen])), (a0_near, .inl (cG, 68, .inr (.inr (.inr (.inr (gO r0_near 68)))))), (a0_nodes, .inl (cI, 68, .inl w0_nodes)), (a0_factors, .inl (cJ, 68, .inr (.inl w0_factors))), (a0_powers, .inl (cJ, 13, .inr (.inl w0_powers))), (a0_product, .inl (cJ, 13, .inr (.inl w0_product))), (a1, .inr (1, [.ref a1_near, .ref a1_tail, .ref a1_head, .int v1_nodes, .int v1_arcCount, .int v1_version])), (a1_near, .inl (cI, 12, .inl w1_near))] ++ rowsW r0_near cI 12 68 w0_near
abbrev we_Pol_update (cI cJ cG cZ : ClassId) (a0 a1 a0_near a0_nodes a0_factors a0_powers a0_product a1_near a1_tail a1_head : Nat) (r0_near : Nat → Nat) (v0_versionSeen : Int32) (w0_nodes : Nat → Int32) (w0_factors : Nat → Int64) (w0_powers : Nat → Int64) (w0_product : Nat → Int64) (v1_nodes : Int32) (v1_arcCount : Int32) (v1_version : Int32) (w1_near : Nat → Int32) (w0_near : Nat → Nat → Int32) : va_W := [(a0, .inr (3, [.ref a0_near, .ref a0_nodes, .ref a0_factors, .ref a0_powers, .ref a0_product, .int v0_versionSeen])), (a0_near, .inl (cG, 68, .inr (.inr (.inr (.inr (gO r0_near 68)))))), (a0_nodes, .inl (cI, 68, .inl w0_nodes)), (a0_factors, .inl (cJ, 68, .inr (.inl w0_factors))), (a0_powers, .inl (cJ, 13, .inr (.inl w0_powers))), (a0_product, .inl (cJ, 13, .inr (.inl w0_product))), (a1, .inr (1, [.ref a1_near, .ref a1_tail, .ref a1_head, .int v1_nodes, .int v1_arcCount, .int v1_version])), (a1_near, .inl (cI, 12, .inl w1_near))]
abbrev us_Pol_update : List Cond := .code y_Pol_update prog_6_method_4_code 5 none :: gtbl
abbrev rm_Pol_update : Room := { frames := 3, cells := 0, slots := 0, locals := 66 }
def m_Pol_update (F : Nat) (v0_versionSeen : Int32) (w0_nodes : Nat → Int32) (w0_factors : Nat → Int64) (w0_powers : Nat → Int64) (w0_product : Nat → Int64) (v1_nodes : Int32) (v1_arcCount : Int32) (v1_version : Int32) (w1_near : Nat → Int32) (w0_near : Nat → Nat → Int32) : Option (Int32 × (Nat → Int32) × (Nat → Int64) × (Nat → Int64) × (Nat → Int64) × (Nat → Nat → Int32)) :=
  if v0_versionSeen = v1_version then (
    some (v0_versionSeen, w0_nodes, w0_factors, w0_powers, w0_product, w0_near)
  ) else (
    gC (inb 0 68) (
    gC (cpyB (0 : Int32) (0 : Int32) (12 : Int32) 12 12) (
    gM (m_Net_everyNode F v1_nodes v1_arcCount v1_version) (fun q_5 =>
    gC (inb 0 68) (
    gC (inb 0 68) (
    gL (fun (k_66 : (Int32 × Int32 × (Nat → Int32) × (Nat → Int64) × (Nat → Int64) × (Nat → Int64) × (Nat → Nat → Int32)) → Option (Int32 × (Nat → Int32) × (Nat → Int64) × (Nat → Int64) × (Nat → Int64) × (Nat → Nat → Int32))) (z_66 : Int32 × Int32 × (Nat → Int32) × (Nat → Int64) × (Nat → Int64) × (Nat → Int64) × (Nat → Nat → Int32)) => match z_66 with
    | (x2_10, x3_11, w0_nodes_12, w0_factors_13, w0_powers_14, w0_product_15, w0_near_16) =>
    if (1000000 : Int32) ≤ x3_11 then (
      some (v1_version, w0_nodes_12, w0_factors_13, w0_powers_14, w0_product_15, w0_near_16)
    ) else (
      if x2_10 < 0 then (
        some (v1_version, w0_nodes_12, w0_factors_13, w0_powers_14, w0_product_15, w0_near_16)
      ) else (
        gM (m_Pol_takeFactors F v1_version w0_nodes_12 w0_factors_13 w0_near_16 x2_10) (fun (z_22 : (Nat → Int32) × (Nat → Int64)) => match z_22 with
        | (w0_nodes_19, w0_factors_20) =>
        gC (inb x2_10 68) (
        gM (m_Pol_fewestNear F v1_version w0_nodes_19 w0_near_16 x2_10) (fun q_25 =>
        gC (inb q_25 12) (
        gC (inb x2_10 68) (
        gM (m_Pol_farPair F v1_version w0_near_16 x2_10 ((w0_near_16 x2_10.toNatClampNeg q_25.toNatClampNeg) &&& (w0_nodes_19 x2_10.toNatClampNeg))) (fun q_30 =>
        gB (α := Option (Int32 × (Nat → Int32) × (Nat → Int64) × (Nat → Int64) × (Nat → Int64) × (Nat → Nat → Int32))) (
          gC (inb x2_10 68) (
          gM (m_Pol_addProduct F v1_version w0_powers_14 w0_product_15 (w0_factors_20 x2_10.toNatClampNeg)) (fun (z_37 : (Nat → Int64) × (Nat → Int64)) => match z_37 with
          | (w0_powers_34, w0_product_35) =>
          gB (x2_10 + (-1)) (fun x2_38 =>
          gB (x3_11 + 1) (fun x3_39 =>
          k_66 (x2_38, x3_39, w0_nodes_19, w0_factors_20, w0_powers_34, w0_product_35, w0_near_16)))))
        ) (fun J_120 =>
        if q_30 = 0 then (
          J_120
        ) else (
          if (x2_10 + 1) < (68 : Int32) then (
            gM (m_Pol_splitTop F v1_version w0_nodes_19 w0_factors_20 w0_near_16 x2_10 q_30) (fun (z_46 : (Nat → Int32) × (Nat → Int64) × (Nat → Nat → Int32)) => match z_46 with
            | (w0_nodes_42, w0_factors_43, w0_near_44) =>
            gB (x2_10 + 1) (fun x2_47 =>
            gB (x3_11 + 1) (fun x3_48 =>
            k_66 (x2_47, x3_48, w0_nodes_42, w0_factors_43, w0_powers_14, w0_product_15, w0_near_44))))
          ) else (
            J_120
          )
        )
        )))))))
      )
    )
    ) F (0, 0, upd w0_nodes (0 : Int32).toNatClampNeg q_5, vp_updL w0_factors (0 : Int32).toNatClampNeg 0, fillA 13 (0 : Int64) w0_powers, w0_product, gF w0_near ((0 : Int32).toNatClampNeg) (va_cpy w1_near (w0_near ((0 : Int32).toNatClampNeg)) (0 : Int32).toNatClampNeg (0 : Int32).toNatClampNeg (12 : Int32).toNatClampNeg)))))))
  )
set_option maxHeartbeats 4000000 in
set_option maxRecDepth 100000 in
theorem c_Pol_update (l : Launch) (dC : Nat → ClassId) (dI : Nat → Nat → Nat) (cI cJ cG cZ : ClassId) (a0 a1 a0_near a0_nodes a0_factors a0_powers a0_product a1_near a1_tail a1_head : Nat) (r0_near : Nat → Nat) (sz : Nat) (F : Nat) (v0_versionSeen : Int32) (w0_nodes : Nat → Int32) (w0_factors : Nat → Int64) (w0_powers : Nat → Int64) (w0_product : Nat → Int64) (v1_nodes : Int32) (v1_arcCount : Int32) (v1_version : Int32) (w1_near : Nat → Int32) (w0_near : Nat → Nat → Int32) (o_v0_versionSeen : Int32) (o_w0_nodes : Nat → Int32) (o_w0_factors : Nat → Int64) (o_w0_powers : Nat → Int64) (o_w0_product : Nat → Int64) (o_w0_near : Nat → Nat → Int32) (hm : m_Pol_update F v0_versionSeen w0_nodes w0_factors w0_powers w0_product v1_nodes v1_arcCount v1_version w1_near w0_near = some (o_v0_versionSeen, o_w0_nodes, o_w0_factors, o_w0_powers, o_w0_product, o_w0_near)) : Met l y_Pol_update us_Pol_update rm_Pol_update (PcS (dC, dI) (tyL cI cJ cG cZ) [.ref a0, .ref a1] sz (wd_Pol_update cI cJ cG cZ a0 a1 a0_near a0_nodes a0_factors a0_powers a0_product a1_near a1_tail a1_head r0_near v0_versionSeen w0_nodes w0_factors w0_powers w0_product v1_nodes v1_arcCount v1_version w1_near w0_near)) (va_Qv (fun (_ : Unit) => True) (fun _ t => PoS (dC, dI) (tyL cI cJ cG cZ) (wd_Pol_update cI cJ cG cZ a0 a1 a0_near a0_nodes a0_factors a0_powers a0_product a1_near a1_tail a1_head r0_near o_v0_versionSeen o_w0_nodes o_w0_factors o_w0_powers o_w0_product v1_nodes v1_arcCount v1_version w1_near o_w0_near) (va_A (wd_Pol_update cI cJ cG cZ a0 a1 a0_near a0_nodes a0_factors a0_powers a0_product a1_near a1_tail a1_head r0_near v0_versionSeen w0_nodes w0_factors w0_powers w0_product v1_nodes v1_arcCount v1_version w1_near w0_near) sz) t) (va_A (wd_Pol_update cI cJ cG cZ a0 a1 a0_near a0_nodes a0_factors a0_powers a0_product a1_near a1_tail a1_head r0_near v0_versionSeen w0_nodes w0_factors w0_powers w0_product v1_nodes v1_arcCount v1_version w1_near w0_near) sz)) 0 0 (va_A (wd_Pol_update cI cJ cG cZ a0 a1 a0_near a0_nodes a0_factors a0_powers a0_product a1_near a1_tail a1_head r0_near v0_versionSeen w0_nodes w0_factors w0_powers w0_product v1_nodes v1_arcCount v1_version w1_near w0_near) sz) := by
  refine Met.ofW (cc := prog_6_method_4_code) (maxL := 5) (ret := none) (by decide) rfl ?_
  intro p e s m args below meth c s₁ B hml hv
  obtain ⟨rfl, hsz, hP, hK, hD0, hNw⟩ := hv
  have hx := B.exec
  have hb := B.bytes
  have hr := B.returns
  have htt : ∀ w ∈ gtbl, w.before _ s = true := fun w h => atoms_spec (ws := us_Pol_update) B.pre w (List.mem_cons_of_mem _ h)
  have hown : s.vm.findClass R_Pol = some m.cls := findClass_of_methodNamed B.named
  have hlocks := B.notSynchronized
  subst hsz
  have hD := hD0.self (sz := s.heap.size)
  generalize hAe : va_A (wd_Pol_update cI cJ cG cZ a0 a1 a0_near a0_nodes a0_factors a0_powers a0_product a1_near a1_tail a1_head r0_near v0_versionSeen w0_nodes w0_factors w0_powers w0_product v1_nodes v1_arcCount v1_version w1_near w0_near) s.heap.size = A at hD ⊢
  have hA : ∀ q : Nat, s.heap.size ≤ q → A q := fun q h => by rw [← hAe]; exact Or.inr h
  clear hAe hD0
  have hS : va_S A s.heap s.heap [] := va_S.rf
  have hl := lv_entry ([.ref a0, .ref a1]) (n := 5) (Nat.le_of_ble_eq_true rfl)
  rw [lg_entry_eq]
  generalize (lg_sl ([.ref a0, .ref a1]) ++ List.replicate (5 - (lg_sl ([.ref a0, .ref a1])).length) Slot.unset).toArray = ls at hl ⊢
  have hl : lv_has ls 5 [(0, .ref a0), (1, .ref a1)] := hl
  generalize hH : s.heap = H at hP ⊢
  have hS : va_S A s.heap H [] := hH ▸ hS
  generalize hLo : ([] : List Loc) = locs at hS ⊢
  clear hH hLo
  unfold m_Pol_update at hm
  refine lv_aload_n hx hb d_Pol_update_0 rfl (lv_at hl 0 rfl) ?_
  refine va_get (D := (dC, dI)) (ci := 3) (v := .int v0_versionSeen) (C := R_Pol) (T := T_Pol) (N := 6) hx hb htt hin_Pol hown hK hP 0 rfl rfl 5 (by decide) (htt _ kt_125) (fun _ h9 => h9) rfl d_Pol_update_1 ?_
  refine lv_aload_n hx hb d_Pol_update_4 rfl (lv_at hl 1 rfl) ?_
  refine va_get (D := (dC, dI)) (ci := 1) (v := .int v1_version) (C := R_Net) (T := T_Net) (N := 6) hx hb htt hin_Net hown hK hP 6 rfl rfl 5 (by decide) (htt _ kt_58) (fun _ h9 => h9) rfl d_Pol_update_5 ?_
  refine lv_icmp_ne (tgt := 12) hx hb d_Pol_update_8 (by decide) (fun c_1 => ?_) (fun c_1 => ?_)
  · have hm := ite_f c_1 hm
    refine lv_aload_n hx hb d_Pol_update_12 rfl (lv_at hl 0 rfl) ?_
    refine lv_aload_n hx hb d_Pol_update_13 rfl (lv_at hl 1 rfl) ?_
    refine va_get (D := (dC, dI)) (ci := 1) (v := .int v1_version) (C := R_Net) (T := T_Net) (N := 6) hx hb htt hin_Net hown hK hP 6 rfl rfl 5 (by decide) (htt _ kt_58) (fun _ h9 => h9) rfl d_Pol_update_14 ?_
    refine va_put (D := (dC, dI)) (ci := 3) (v := .int v1_version) (ty := .int) (C := R_Pol) (T := T_Pol) (N := 6) hx hb htt hin_Pol ty_Pol tyok_Pol nm_Pol hown hK hP hD hS 0 rfl rfl 5 (by decide) (htt _ kt_125) (fun _ h9 => h9) rfl (by decide +kernel) rfl rfl (Nat.le_of_ble_eq_true rfl) d_Pol_update_17 (fun H locs hP hD hS => ?_)
    have hP : va_P (dC, dI) vwCl (wd_Pol_update cI cJ cG cZ a0 a1 a0_near a0_nodes a0_factors a0_powers a0_product a1_near a1_tail a1_head r0_near v1_version w0_nodes w0_factors w0_powers w0_product v1_nodes v1_arcCount v1_version w1_near w0_near) H := hP
    have hD : va_D A (wd_Pol_update cI cJ cG cZ a0 a1 a0_near a0_nodes a0_factors a0_powers a0_product a1_near a1_tail a1_head r0_near v1_version w0_nodes w0_factors w0_powers w0_product v1_nodes v1_arcCount v1_version w1_near w0_near) := hD
    refine lv_aload_n hx hb d_Pol_update_20 rfl (lv_at hl 0 rfl) ?_
    refine va_get (D := (dC, dI)) (ci := 3) (v := .ref a0_powers) (C := R_Pol) (T := T_Pol) (N := 6) hx hb htt hin_Pol hown hK hP 0 rfl rfl 3 (by decide) (htt _ kt_123) (fun _ h9 => h9) rfl d_Pol_update_21 ?_
    refine lv_lconst (v := 0) hx hb d_Pol_update_24 (by decide) ?_
    refine gx_filll hx hb hml hown htt kt_395 hK hNw hP hD hS hA 4 rfl (by decide) hl.1 (lv_room (Nat.le_of_ble_eq_true rfl)) (Nat.le_of_ble_eq_true rfl) (Nat.le_of_ble_eq_true rfl) (Nat.zero_le _) (Nat.zero_le _) d_Pol_update_25 (fun H locs hP hD hS => ?_)
    have hP : va_P (dC, dI) vwCl (wd_Pol_update cI cJ cG cZ a0 a1 a0_near a0_nodes a0_factors a0_powers a0_product a1_near a1_tail a1_head r0_near v1_version w0_nodes w0_factors (fillA 13 (0 : Int64) w0_powers) w0_product v1_nodes v1_arcCount v1_version w1_near w0_near) H := hP
    have hD : va_D A (wd_Pol_update cI cJ cG cZ a0 a1 a0_near a0_nodes a0_factors a0_powers a0_product a1_near a1_tail a1_head r0_near v1_version w0_nodes w0_factors (fillA 13 (0 : Int64) w0_powers) w0_product v1_nodes v1_arcCount v1_version w1_near w0_near) := hD
    refine lv_aload_n hx hb d_Pol_update_28 rfl (lv_at hl 1 rfl) ?_
    refine va_get (D := (dC, dI)) (ci := 1) (v := .ref a1_near) (C := R_Net) (T := T_Net) (N := 6) hx hb htt hin_Net hown hK hP 6 rfl rfl 0 (by decide) (htt _ kt_36) (fun _ h9 => h9) rfl d_Pol_update_29 ?_
    refine lv_iconst (v := 0) hx hb d_Pol_update_32 (by decide) ?_
    refine lv_aload_n hx hb d_Pol_update_33 rfl (lv_at hl 0 rfl) ?_
    refine va_get (D := (dC, dI)) (ci := 3) (v := .ref a0_near) (C := R_Pol) (T := T_Pol) (N := 6) hx hb htt hin_Pol hown hK hP 0 rfl rfl 0 (by decide) (htt _ kt_120) (fun _ h9 => h9) rfl d_Pol_update_34 ?_
    refine lv_iconst (v := 0) hx hb d_Pol_update_37 (by decide) ?_
    obtain ⟨hi_2, hm⟩ := gC_e hm
    have hj_3 := inb_lt hi_2
    refine gx_ald hx hb hK hP 1 2 rfl rfl (inb_vp hi_2) d_Pol_update_38 ?_
    refine lv_iconst (v := 0) hx hb d_Pol_update_39 (by decide) ?_
    refine lv_bipush (v := 12) hx hb d_Pol_update_40 (by decide) ?_
    obtain ⟨hy_4, hm⟩ := gC_e hm
    refine gx_copy hx hb hml hown htt kt_398 hK hP hD hS 7 (8 + (0 : Int32).toNatClampNeg) rfl (rows_get rfl hj_3) hy_4 hl.1 (lv_room (Nat.le_of_ble_eq_true rfl)) (Nat.le_of_ble_eq_true rfl) (Nat.le_of_ble_eq_true rfl) d_Pol_update_42 (fun H locs hP hD hS => ?_)
    have hP := rows_setP rfl hP
    have hD := rows_setD rfl hD
    have hP : va_P (dC, dI) vwCl (wd_Pol_update cI cJ cG cZ a0 a1 a0_near a0_nodes a0_factors a0_powers a0_product a1_near a1_tail a1_head r0_near v1_version w0_nodes w0_factors (fillA 13 (0 : Int64) w0_powers) w0_product v1_nodes v1_arcCount v1_version w1_near (gF w0_near ((0 : Int32).toNatClampNeg) (va_cpy w1_near (w0_near ((0 : Int32).toNatClampNeg)) (0 : Int32).toNatClampNeg (0 : Int32).toNatClampNeg (12 : Int32).toNatClampNeg))) H := hP
    have hD : va_D A (wd_Pol_update cI cJ cG cZ a0 a1 a0_near a0_nodes a0_factors a0_powers a0_product a1_near a1_tail a1_head r0_near v1_version w0_nodes w0_factors (fillA 13 (0 : Int64) w0_powers) w0_product v1_nodes v1_arcCount v1_version w1_near (gF w0_near ((0 : Int32).toNatClampNeg) (va_cpy w1_near (w0_near ((0 : Int32).toNatClampNeg)) (0 : Int32).toNatClampNeg (0 : Int32).toNatClampNeg (12 : Int32).toNatClampNeg))) := hD
    refine lv_aload_n hx hb d_Pol_update_45 rfl (lv_at hl 0 rfl) ?_
    refine va_get (D := (dC, dI)) (ci := 3) (v := .ref a0_nodes) (C := R_Pol) (T := T_Pol) (N := 6) hx hb htt hin_Pol hown hK hP 0 rfl rfl 1 (by decide) (htt _ kt_121) (fun _ h9 => h9) rfl d_Pol_update_46 ?_
    refine lv_iconst (v := 0) hx hb d_Pol_update_49 (by decide) ?_
    refine lv_aload_n hx hb d_Pol_update_50 rfl (lv_at hl 1 rfl) ?_
    obtain ⟨q_5, hc_6, hm⟩ := gM_e hm
    have hPc : va_P (dC, dI) vwCl (wd_Net_everyNode cI cJ cG cZ a1 a1_near a1_tail a1_head v1_nodes v1_arcCount v1_version) H := hP.sub [6] rfl
    have hDc : va_D A (wd_Net_everyNode cI cJ cG cZ a1 a1_near a1_tail a1_head v1_nodes v1_arcCount v1_version) := hD.sub [6] (by decide) rfl
    have hFc : ∀ q, va_A (wd_Net_everyNode cI cJ cG cZ a1 a1_near a1_tail a1_head v1_nodes v1_arcCount v1_version) H.size q → A q := va_free hD hS hA [6] rfl
    refine va_calli (va_runV (As := []) (rest := [.int 0, .ref a0_nodes]) ⟨hx, hb, hml, hown, htt⟩ (c_Net_everyNode l dC dI cI cJ cG cZ a1 a1_near a1_tail a1_head H.size F v1_nodes v1_arcCount v1_version q_5 hc_6) (cwV 0 htt (gdV kt_399 kt_400 kt_401 kt_2 kt_402) rfl rfl rfl (by decide +kernel) ⟨(Nat.le_of_ble_eq_true rfl), (Nat.le_of_ble_eq_true rfl)⟩) ⟨PcS_blind, va_recv hK hPc (ci := 1) (q0 := 0) rfl rfl, PcS_in hPc hK hDc hNw⟩ rfl rfl hl.1 rfl (lv_room (Nat.le_of_ble_eq_true rfl)) d_Pol_update_51 ⟨Nat.zero_le _, Nat.zero_le _⟩) hS (fun q _ h => hFc q h) hFc (fun r_7 u t H1 locs ht hvm hw hB hz1 hk1 hS => ?_)
    obtain ⟨hP1, hK1, hD1⟩ := hB
    rw [ht] at hP1
    subst hw
    obtain ⟨hP, hD⟩ := va_joinQ (wr := [(a0, .inr (3, [.ref a0_near, .ref a0_nodes, .ref a0_factors, .ref a0_powers, .ref a0_product, .int v1_version])), (a0_near, .inl (cG, 68, .inr (.inr (.inr (.inr (gO r0_near 68)))))), (a0_nodes, .inl (cI, 68, .inl w0_nodes)), (a0_factors, .inl (cJ, 68, .inr (.inl w0_factors))), (a0_powers, .inl (cJ, 13, .inr (.inl (fillA 13 (0 : Int64) w0_powers)))), (a0_product, .inl (cJ, 13, .inr (.inl w0_product))), (a1_near, .inl (cI, 12, .inl w1_near))]) (w1 := (wd_Net_everyNode cI cJ cG cZ a1 a1_near a1_tail a1_head v1_nodes v1_arcCount v1_version)) hP hD [6] [0, 1, 2, 3, 4, 5, 7] rfl rfl (by decide) (by decide) hk1 hFc hP1 hD1
    have hP : va_P (dC, dI) vwCl (wd_Pol_update cI cJ cG cZ a0 a1 a0_near a0_nodes a0_factors a0_powers a0_product a1_near a1_tail a1_head r0_near v1_version w0_nodes w0_factors (fillA 13 (0 : Int64) w0_powers) w0_product v1_nodes v1_arcCount v1_version w1_near (gF w0_near ((0 : Int32).toNatClampNeg) (va_cpy w1_near (w0_near ((0 : Int32).toNatClampNeg)) (0 : Int32).toNatClampNeg (0 : Int32).toNatClampNeg (12 : Int32).toNatClampNeg))) H1 := hP.part [0, 1, 2, 3, 4, 5, 7, 6] rfl
    have hD : va_D A (wd_Pol_update cI cJ cG cZ a0 a1 a0_near a0_nodes a0_factors a0_powers a0_product a1_near a1_tail a1_head r0_near v1_version w0_nodes w0_factors (fillA 13 (0 : Int64) w0_powers) w0_product v1_nodes v1_arcCount v1_version w1_near (gF w0_near ((0 : Int32).toNatClampNeg) (va_cpy w1_near (w0_near ((0 : Int32).toNatClampNeg)) (0 : Int32).toNatClampNeg (0 : Int32).toNatClampNeg (12 : Int32).toNatClampNeg))) := hD.part [0, 1, 2, 3, 4, 5, 7, 6] (by decide) rfl
    clear hP1 hK1 hD1 hk1 hPc hDc hFc ht hvm hz1
    generalize H1 = H at hP hS ⊢
    obtain ⟨hi_8, hm⟩ := gC_e hm
    refine va_iast hx hb hK hP hD hS 2 0 rfl rfl (inb_vp hi_8) d_Pol_update_54 (fun H locs hP hD hS => ?_)
    have hP : va_P (dC, dI) vwCl (wd_Pol_update cI cJ cG cZ a0 a1 a0_near a0_nodes a0_factors a0_powers a0_product a1_near a1_tail a1_head r0_near v1_version (upd w0_nodes (0 : Int32).toNatClampNeg q_5) w0_factors (fillA 13 (0 : Int64) w0_powers) w0_product v1_nodes v1_arcCount v1_version w1_near (gF w0_near ((0 : Int32).toNatClampNeg) (va_cpy w1_near (w0_near ((0 : Int32).toNatClampNeg)) (0 : Int32).toNatClampNeg (0 : Int32).toNatClampNeg (12 : Int32).toNatClampNeg))) H := hP
    have hD : va_D A (wd_Pol_update cI cJ cG cZ a0 a1 a0_near a0_nodes a0_factors a0_powers a0_product a1_near a1_tail a1_head r0_near v1_version (upd w0_nodes (0 : Int32).toNatClampNeg q_5) w0_factors (fillA 13 (0 : Int64) w0_powers) w0_product v1_nodes v1_arcCount v1_version w1_near (gF w0_near ((0 : Int32).toNatClampNeg) (va_cpy w1_near (w0_near ((0 : Int32).toNatClampNeg)) (0 : Int32).toNatClampNeg (0 : Int32).toNatClampNeg (12 : Int32).toNatClampNeg))) := hD
    refine lv_aload_n hx hb d_Pol_update_55 rfl (lv_at hl 0 rfl) ?_
    refine va_get (D := (dC, dI)) (ci := 3) (v := .ref a0_factors) (C := R_Pol) (T := T_Pol) (N := 6) hx hb htt hin_Pol hown hK hP 0 rfl rfl 2 (by decide) (htt _ kt_122) (fun _ h9 => h9) rfl d_Pol_update_56 ?_
    refine lv_iconst (v := 0) hx hb d_Pol_update_59 (by decide) ?_
    refine lv_lconst (v := 0) hx hb d_Pol_update_60 (by decide) ?_
    obtain ⟨hi_9, hm⟩ := gC_e hm
    refine va_last hx hb hK hP hD hS 3 1 rfl rfl (inb_vp hi_9) d_Pol_update_61 (fun H locs hP hD hS => ?_)
    have hP : va_P (dC, dI) vwCl (wd_Pol_update cI cJ cG cZ a0 a1 a0_near a0_nodes a0_factors a0_powers a0_product a1_near a1_tail a1_head r0_near v1_version (upd w0_nodes (0 : Int32).toNatClampNeg q_5) (vp_updL w0_factors (0 : Int32).toNatClampNeg 0) (fillA 13 (0 : Int64) w0_powers) w0_product v1_nodes v1_arcCount v1_version w1_near (gF w0_near ((0 : Int32).toNatClampNeg) (va_cpy w1_near (w0_near ((0 : Int32).toNatClampNeg)) (0 : Int32).toNatClampNeg (0 : Int32).toNatClampNeg (12 : Int32).toNatClampNeg))) H := hP
    have hD : va_D A (wd_Pol_update cI cJ cG cZ a0 a1 a0_near a0_nodes a0_factors a0_powers a0_product a1_near a1_tail a1_head r0_near v1_version (upd w0_nodes (0 : Int32).toNatClampNeg q_5) (vp_updL w0_factors (0 : Int32).toNatClampNeg 0) (fillA 13 (0 : Int64) w0_powers) w0_product v1_nodes v1_arcCount v1_version w1_near (gF w0_near ((0 : Int32).toNatClampNeg) (va_cpy w1_near (w0_near ((0 : Int32).toNatClampNeg)) (0 : Int32).toNatClampNeg (0 : Int32).toNatClampNeg (12 : Int32).toNatClampNeg))) := hD
    refine lv_iconst (v := 0) hx hb d_Pol_update_62 (by decide) ?_
    refine lv_istore_n (lv' := [(2, .int 0), (0, .ref a0), (1, .ref a1)]) hx hb d_Pol_update_63 rfl hl (by decide) rfl (fun ls hl => ?_)
    refine lv_iconst (v := 0) hx hb d_Pol_update_64 (by decide) ?_
    refine lv_istore_n (lv' := [(3, .int 0), (2, .int 0), (0, .ref a0), (1, .ref a1)]) hx hb d_Pol_update_65 rfl hl (by decide) rfl (fun ls hl => ?_)
    refine gL_e (P := (fun (z_66 : Int32 × Int32 × (Nat → Int32) × (Nat → Int64) × (Nat → Int64) × (Nat → Int64) × (Nat → Nat → Int32)) => ∀ (x2_10 : Int32), ∀ (x3_11 : Int32), ∀ (w0_nodes_12 : Nat → Int32), ∀ (w0_factors_13 : Nat → Int64), ∀ (w0_powers_14 : Nat → Int64), ∀ (w0_product_15 : Nat → Int64), ∀ (w0_near_16 : Nat → Nat → Int32), z_66 = (x2_10, x3_11, w0_nodes_12, w0_factors_13, w0_powers_14, w0_product_15, w0_near_16) → ∀ (ls : Array Slot) (H : Heap) (locs : List Loc), lv_has ls 5 [(0, .ref a0), (2, .int x2_10), (3, .int x3_11)] → va_P (dC, dI) vwCl (wd_Pol_update cI cJ cG cZ a0 a1 a0_near a0_nodes a0_factors a0_powers a0_product a1_near a1_tail a1_head r0_near v1_version w0_nodes_12 w0_factors_13 w0_powers_14 w0_product_15 v1_nodes v1_arcCount v1_version w1_near w0_near_16) H → va_D A (wd_Pol_update cI cJ cG cZ a0 a1 a0_near a0_nodes a0_factors a0_powers a0_product a1_near a1_tail a1_head r0_near v1_version w0_nodes_12 w0_factors_13 w0_powers_14 w0_product_15 v1_nodes v1_arcCount v1_version w1_near w0_near_16) → va_S A s.heap H locs → W p l e (headSpec us_Pol_update rm_Pol_update).room s m ([.ref a0, .ref a1] : List Value).toArray below meth c H locs 0 0 (MQ below (va_Qv (fun (_ : Unit) => True) (fun _ t => PoS (dC, dI) (tyL cI cJ cG cZ) (wd_Pol_update cI cJ cG cZ a0 a1 a0_near a0_nodes a0_factors a0_powers a0_product a1_near a1_tail a1_head r0_near o_v0_versionSeen o_w0_nodes o_w0_factors o_w0_powers o_w0_product v1_nodes v1_arcCount v1_version w1_near o_w0_near) A t) A) ([.ref a0, .ref a1] : List Value).toArray s 0 0 A) (F0 m 66 ls []))) hm (fun k_66 z_66 ih_66 hm => ?_) _ _ _ _ _ _ _ rfl ls H locs (lv_sub hl [2, 1, 0] rfl) hP hD hS
    intro x2_10 x3_11 w0_nodes_12 w0_factors_13 w0_powers_14 w0_product_15 w0_near_16 hz ls H locs hl hP hD hS
    subst hz
    dsimp only at hm
    refine lv_iload_n hx hb d_Pol_update_66 rfl (lv_at hl 2 rfl) ?_
    refine lv_ldc (own := R_Pol) (v := 1000000) hx hb hown (htt _ kt_403) d_Pol_update_67 ?_
    refine lv_icmp_ge (tgt := 152) hx hb d_Pol_update_69 (by decide) (fun c_17 => ?_) (fun c_17 => ?_)
    · have hm := ite_t c_17 hm
      cases hm
      exact W.vret hx hb hr (fun t ht hW => ⟨⟨(), rfl, trivial, by rw [ht]; exact hP, va_K.moved hW.alike hK, hD⟩, hS.F ht⟩) hS.2.2 d_Pol_update_152
    · have hm := ite_f c_17 hm
      refine lv_iload_n hx hb d_Pol_update_72 rfl (lv_at hl 1 rfl) ?_
      refine lv_if_lt (tgt := 152) hx hb d_Pol_update_73 (by decide) (fun c_18 => ?_) (fun c_18 => ?_)
      · have hm := ite_t c_18 hm
        cases hm
        exact W.vret hx hb hr (fun t ht hW => ⟨⟨(), rfl, trivial, by rw [ht]; exact hP, va_K.moved hW.alike hK, hD⟩, hS.F ht⟩) hS.2.2 d_Pol_update_152
      · have hm := ite_f c_18 hm
        refine lv_aload_n hx hb d_Pol_update_76 rfl (lv_at hl 0 rfl) ?_
        refine lv_iload_n hx hb d_Pol_update_77 rfl (lv_at hl 1 rfl) ?_
        obtain ⟨⟨w0_nodes_19, w0_factors_20⟩, hc_21, hm⟩ := gM_e hm
        dsimp only at hm
        have hPc : va_P (dC, dI) vwCl (wd_Pol_takeFactors cI cJ cG cZ a0 a0_near a0_nodes a0_factors a0_powers a0_product r0_near v1_version w0_nodes_12 w0_factors_13 w0_near_16) H := hP.part [0, 1, 2, 3] rfl
        have hDc : va_D A (wd_Pol_takeFactors cI cJ cG cZ a0 a0_near a0_nodes a0_factors a0_powers a0_product r0_near v1_version w0_nodes_12 w0_factors_13 w0_near_16) := hD.part [0, 1, 2, 3] (by decide) rfl
        have hFc : ∀ q, va_A (wd_Pol_takeFactors cI cJ cG cZ a0 a0_near a0_nodes a0_factors a0_powers a0_product r0_near v1_version w0_nodes_12 w0_factors_13 w0_near_16) H.size q → A q := va_freeP hD hS hA [0, 1, 2, 3] rfl
        refine va_callv (va_runV (As := [.int x2_10]) (rest := []) ⟨hx, hb, hml, hown, htt⟩ (c_Pol_takeFactors l dC dI cI cJ cG cZ a0 a0_near a0_nodes a0_factors a0_powers a0_product r0_near H.size F v1_version w0_nodes_12 w0_factors_13 w0_near_16 x2_10 w0_nodes_19 w0_factors_20 hc_21) (cwV 1 htt (gdV kt_404 kt_406 kp_15 kt_4 kt_407) rfl rfl rfl (by decide +kernel) ⟨(Nat.le_of_ble_eq_true rfl), (Nat.le_of_ble_eq_true rfl)⟩) ⟨PcS_blind, va_recv hK hPc (ci := 3) (q0 := 0) rfl rfl, PcS_in hPc hK hDc hNw⟩ rfl rfl hl.1 rfl (lv_room (Nat.le_of_ble_eq_true rfl)) d_Pol_update_78 ⟨Nat.zero_le _, Nat.zero_le _⟩) hS (fun q _ h => hFc q h) hFc (fun u t H1 locs ht hvm hw hB hz1 hk1 hS => ?_)
        obtain ⟨hP1, hK1, hD1⟩ := hB
        rw [ht] at hP1
        obtain ⟨hP, hD⟩ := va_joinP (wr := [(a0_powers, .inl (cJ, 13, .inr (.inl w0_powers_14))), (a0_product, .inl (cJ, 13, .inr (.inl w0_product_15))), (a1, .inr (1, [.ref a1_near, .ref a1_tail, .ref a1_head, .int v1_nodes, .int v1_arcCount, .int v1_version])), (a1_near, .inl (cI, 12, .inl w1_near))]) (rx := (we_Pol_takeFactors cI cJ cG cZ a0 a0_near a0_nodes a0_factors a0_powers a0_product r0_near v1_version w0_nodes_19 w0_factors_20 w0_near_16)) hP hD [0, 1, 2, 3] [4, 5, 6, 7] rfl rfl (by decide) (by decide) hk1 hFc hP1 hD1
        have hP : va_P (dC, dI) vwCl (wd_Pol_update cI cJ cG cZ a0 a1 a0_near a0_nodes a0_factors a0_powers a0_product a1_near a1_tail a1_head r0_near v1_version w0_nodes_19 w0_factors_20 w0_powers_14 w0_product_15 v1_nodes v1_arcCount v1_version w1_near w0_near_16) H1 := hP.part [4, 5, 6, 7, 0, 1, 2, 3] rfl
        have hD : va_D A (wd_Pol_update cI cJ cG cZ a0 a1 a0_near a0_nodes a0_factors a0_powers a0_product a1_near a1_tail a1_head r0_near v1_version w0_nodes_19 w0_factors_20 w0_powers_14 w0_product_15 v1_nodes v1_arcCount v1_version w1_near w0_near_16) := hD.part [4, 5, 6, 7, 0, 1, 2, 3] (by decide) rfl
        clear hP1 hK1 hD1 hk1 hPc hDc hFc ht hvm hz1
        generalize H1 = H at hP hS ⊢
        refine lv_aload_n hx hb d_Pol_update_81 rfl (lv_at hl 0 rfl) ?_
        refine lv_iload_n hx hb d_Pol_update_82 rfl (lv_at hl 1 rfl) ?_
        refine lv_aload_n hx hb d_Pol_update_83 rfl (lv_at hl 0 rfl) ?_
        refine va_get (D := (dC, dI)) (ci := 3) (v := .ref a0_near) (C := R_Pol) (T := T_Pol) (N := 6) hx hb htt hin_Pol hown hK hP 0 rfl rfl 0 (by decide) (htt _ kt_120) (fun _ h9 => h9) rfl d_Pol_update_84 ?_
        refine lv_iload_n hx hb d_Pol_update_87 rfl (lv_at hl 1 rfl) ?_
        obtain ⟨hi_23, hm⟩ := gC_e hm
        have hj_24 := inb_lt hi_23
        refine gx_ald hx hb hK hP 1 2 rfl rfl (inb_vp hi_23) d_Pol_update_88 ?_
        refine lv_aload_n hx hb d_Pol_update_89 rfl (lv_at hl 0 rfl) ?_
        refine lv_iload_n hx hb d_Pol_update_90 rfl (lv_at hl 1 rfl) ?_
        obtain ⟨q_25, hc_26, hm⟩ := gM_e hm
        have hPc : va_P (dC, dI) vwCl (wd_Pol_fewestNear cI cJ cG cZ a0 a0_near a0_nodes a0_factors a0_powers a0_product r0_near v1_version w0_nodes_19 w0_near_16) H := hP.part [0, 1, 2] rfl
        have hDc : va_D A (wd_Pol_fewestNear cI cJ cG cZ a0 a0_near a0_nodes a0_factors a0_powers a0_product r0_near v1_version w0_nodes_19 w0_near_16) := hD.part [0, 1, 2] (by decide) rfl
        have hFc : ∀ q, va_A (wd_Pol_fewestNear cI cJ cG cZ a0 a0_near a0_nodes a0_factors a0_powers a0_product r0_near v1_version w0_nodes_19 w0_near_16) H.size q → A q := va_freeP hD hS hA [0, 1, 2] rfl
        refine va_calli (va_runV (As := [.int x2_10]) (rest := [.ref (r0_near x2_10.toNatClampNeg), .int x2_10, .ref a0]) ⟨hx, hb, hml, hown, htt⟩ (c_Pol_fewestNear l dC dI cI cJ cG cZ a0 a0_near a0_nodes a0_factors a0_powers a0_product r0_near H.size F v1_version w0_nodes_19 w0_near_16 x2_10 q_25 hc_26) (cwV 1 htt (gdV kt_413 kt_415 kp_17 kt_4 kt_416) rfl rfl rfl (by decide +kernel) ⟨(Nat.le_of_ble_eq_true rfl), (Nat.le_of_ble_eq_true rfl)⟩) ⟨PcS_blind, va_recv hK hPc (ci := 3) (q0 := 0) rfl rfl, PcS_in hPc hK hDc hNw⟩ rfl rfl hl.1 rfl (lv_room (Nat.le_of_ble_eq_true rfl)) d_Pol_update_91 ⟨Nat.zero_le _, Nat.zero_le _⟩) hS (fun q _ h => hFc q h) hFc (fun r_27 u t H1 locs ht hvm hw hB hz1 hk1 hS => ?_)
        obtain ⟨hP1, hK1, hD1⟩ := hB
        rw [ht] at hP1
        subst hw
        obtain ⟨hP, hD⟩ := va_joinP (wr := [(a0_factors, .inl (cJ, 68, .inr (.inl w0_factors_20))), (a0_powers, .inl (cJ, 13, .inr (.inl w0_powers_14))), (a0_product, .inl (cJ, 13, .inr (.inl w0_product_15))), (a1, .inr (1, [.ref a1_near, .ref a1_tail, .ref a1_head, .int v1_nodes, .int v1_arcCount, .int v1_version])), (a1_near, .inl (cI, 12, .inl w1_near))]) (rx := (we_Pol_fewestNear cI cJ cG cZ a0 a0_near a0_nodes a0_factors a0_powers a0_product r0_near v1_version w0_nodes_19 w0_near_16)) hP hD [0, 1, 2] [3, 4, 5, 6, 7] rfl rfl (by decide) (by decide) hk1 hFc hP1 hD1
        have hP : va_P (dC, dI) vwCl (wd_Pol_update cI cJ cG cZ a0 a1 a0_near a0_nodes a0_factors a0_powers a0_product a1_near a1_tail a1_head r0_near v1_version w0_nodes_19 w0_factors_20 w0_powers_14 w0_product_15 v1_nodes v1_arcCount v1_version w1_near w0_near_16) H1 := hP.part [5, 6, 7, 0, 1, 2, 3, 4] rfl
        have hD : va_D A (wd_Pol_update cI cJ cG cZ a0 a1 a0_near a0_nodes a0_factors a0_powers a0_product a1_near a1_tail a1_head r0_near v1_version w0_nodes_19 w0_factors_20 w0_powers_14 w0_product_15 v1_nodes v1_arcCount v1_version w1_near w0_near_16) := hD.part [5, 6, 7, 0, 1, 2, 3, 4] (by decide) rfl
        clear hP1 hK1 hD1 hk1 hPc hDc hFc ht hvm hz1
        generalize H1 = H at hP hS ⊢
        obtain ⟨hi_28, hm⟩ := gC_e hm
        refine va_iald hx hb hK hP (8 + x2_10.toNatClampNeg) 0 (rows_get rfl hj_24) rfl (inb_vp hi_28) d_Pol_update_94 ?_
        refine lv_aload_n hx hb d_Pol_update_95 rfl (lv_at hl 0 rfl) ?_
        refine va_get (D := (dC, dI)) (ci := 3) (v := .ref a0_nodes) (C := R_Pol) (T := T_Pol) (N := 6) hx hb htt hin_Pol hown hK hP 0 rfl rfl 1 (by decide) (htt _ kt_121) (fun _ h9 => h9) rfl d_Pol_update_96 ?_
        refine lv_iload_n hx hb d_Pol_update_99 rfl (lv_at hl 1 rfl) ?_
        obtain ⟨hi_29, hm⟩ := gC_e hm
        refine va_iald hx hb hK hP 2 0 rfl rfl (inb_vp hi_29) d_Pol_update_100 ?_
        refine lv_iand hx hb d_Pol_update_101 ?_
        obtain ⟨q_30, hc_31, hm⟩ := gM_e hm
        have hPc : va_P (dC, dI) vwCl (wd_Pol_farPair cI cJ cG cZ a0 a0_near a0_nodes a0_factors a0_powers a0_product r0_near v1_version w0_near_16) H := hP.part [0, 1] rfl
        have hDc : va_D A (wd_Pol_farPair cI cJ cG cZ a0 a0_near a0_nodes a0_factors a0_powers a0_product r0_near v1_version w0_near_16) := hD.part [0, 1] (by decide) rfl
        have hFc : ∀ q, va_A (wd_Pol_farPair cI cJ cG cZ a0 a0_near a0_nodes a0_factors a0_powers a0_product r0_near v1_version w0_near_16) H.size q → A q := va_freeP hD hS hA [0, 1] rfl
        refine va_calli (va_runV (As := [.int x2_10, .int ((w0_near_16 x2_10.toNatClampNeg q_25.toNatClampNeg) &&& (w0_nodes_19 x2_10.toNatClampNeg))]) (rest := []) ⟨hx, hb, hml, hown, htt⟩ (c_Pol_farPair l dC dI cI cJ cG cZ a0 a0_near a0_nodes a0_factors a0_powers a0_product r0_near H.size F v1_version w0_near_16 x2_10 ((w0_near_16 x2_10.toNatClampNeg q_25.toNatClampNeg) &&& (w0_nodes_19 x2_10.toNatClampNeg)) q_30 hc_31) (cwV 2 htt (gdV kt_408 kt_410 kp_16 kt_4 kt_411) rfl rfl rfl (by decide +kernel) ⟨(Nat.le_of_ble_eq_true rfl), (Nat.le_of_ble_eq_true rfl)⟩) ⟨PcS_blind, va_recv hK hPc (ci := 3) (q0 := 0) rfl rfl, PcS_in hPc hK hDc hNw⟩ rfl rfl hl.1 rfl (lv_room (Nat.le_of_ble_eq_true rfl)) d_Pol_update_102 ⟨Nat.zero_le _, Nat.zero_le _⟩) hS (fun q _ h => hFc q h) hFc (fun r_32 u t H1 locs ht hvm hw hB hz1 hk1 hS => ?_)
        obtain ⟨hP1, hK1, hD1⟩ := hB
        rw [ht] at hP1
        subst hw
        obtain ⟨hP, hD⟩ := va_joinP (wr := [(a0_nodes, .inl (cI, 68, .inl w0_nodes_19)), (a0_factors, .inl (cJ, 68, .inr (.inl w0_factors_20))), (a0_powers, .inl (cJ, 13, .inr (.inl w0_powers_14))), (a0_product, .inl (cJ, 13, .inr (.inl w0_product_15))), (a1, .inr (1, [.ref a1_near, .ref a1_tail, .ref a1_head, .int v1_nodes, .int v1_arcCount, .int v1_version])), (a1_near, .inl (cI, 12, .inl w1_near))]) (rx := (we_Pol_farPair cI cJ cG cZ a0 a0_near a0_nodes a0_factors a0_powers a0_product r0_near v1_version w0_near_16)) hP hD [0, 1] [2, 3, 4, 5, 6, 7] rfl rfl (by decide) (by decide) hk1 hFc hP1 hD1
        have hP : va_P (dC, dI) vwCl (wd_Pol_update cI cJ cG cZ a0 a1 a0_near a0_nodes a0_factors a0_powers a0_product a1_near a1_tail a1_head r0_near v1_version w0_nodes_19 w0_factors_20 w0_powers_14 w0_product_15 v1_nodes v1_arcCount v1_version w1_near w0_near_16) H1 := hP.part [6, 7, 0, 1, 2, 3, 4, 5] rfl
        have hD : va_D A (wd_Pol_update cI cJ cG cZ a0 a1 a0_near a0_nodes a0_factors a0_powers a0_product a1_near a1_tail a1_head r0_near v1_version w0_nodes_19 w0_factors_20 w0_powers_14 w0_product_15 v1_nodes v1_arcCount v1_version w1_near w0_near_16) := hD.part [6, 7, 0, 1, 2, 3, 4, 5] (by decide) rfl
        clear hP1 hK1 hD1 hk1 hPc hDc hFc ht hvm hz1
        generalize H1 = H at hP hS ⊢
        refine lv_istore (lv' := [(4, .int q_30), (0, .ref a0), (2, .int x2_10), (3, .int x3_11)]) hx hb d_Pol_update_105 hl (by decide) rfl (fun ls hl => ?_)
        refine lv_iload hx hb d_Pol_update_107 (lv_at hl 0 rfl) ?_
        obtain ⟨J_120, hJ_120, hm⟩ := gB_x hm
        have jp_120 : ∀ (ls : Array Slot) (H : Heap) (locs : List Loc), J_120 = some (o_v0_versionSeen, o_w0_nodes, o_w0_factors, o_w0_powers, o_w0_product, o_w0_near) → lv_has ls 5 [(0, .ref a0), (2, .int x2_10), (3, .int x3_11)] → va_P (dC, dI) vwCl (wd_Pol_update cI cJ cG cZ a0 a1 a0_near a0_nodes a0_factors a0_powers a0_product a1_near a1_tail a1_head r0_near v1_version w0_nodes_19 w0_factors_20 w0_powers_14 w0_product_15 v1_nodes v1_arcCount v1_version w1_near w0_near_16) H → va_D A (wd_Pol_update cI cJ cG cZ a0 a1 a0_near a0_nodes a0_factors a0_powers a0_product a1_near a1_tail a1_head r0_near v1_version w0_nodes_19 w0_factors_20 w0_powers_14 w0_product_15 v1_nodes v1_arcCount v1_version w1_near w0_near_16) → va_S A s.heap H locs → W p l e (headSpec us_Pol_update rm_Pol_update).room s m ([.ref a0, .ref a1] : List Value).toArray below meth c H locs 0 0 (MQ below (va_Qv (fun (_ : Unit) => True) (fun _ t => PoS (dC, dI) (tyL cI cJ cG cZ) (wd_Pol_update cI cJ cG cZ a0 a1 a0_near a0_nodes a0_factors a0_powers a0_product a1_near a1_tail a1_head r0_near o_v0_versionSeen o_w0_nodes o_w0_factors o_w0_powers o_w0_product v1_nodes v1_arcCount v1_version w1_near o_w0_near) A t) A) ([.ref a0, .ref a1] : List Value).toArray s 0 0 A) (F0 m 120 ls []) := by
          intro ls H locs hm hl hP hD hS
          have hm := jn0 hJ_120 hm
          refine lv_aload_n hx hb d_Pol_update_120 rfl (lv_at hl 0 rfl) ?_
          refine lv_aload_n hx hb d_Pol_update_121 rfl (lv_at hl 0 rfl) ?_
          refine va_get (D := (dC, dI)) (ci := 3) (v := .ref a0_factors) (C := R_Pol) (T := T_Pol) (N := 6) hx hb htt hin_Pol hown hK hP 0 rfl rfl 2 (by decide) (htt _ kt_122) (fun _ h9 => h9) rfl d_Pol_update_122 ?_
          refine lv_iload_n hx hb d_Pol_update_125 rfl (lv_at hl 1 rfl) ?_
          obtain ⟨hi_33, hm⟩ := gC_e hm
          refine va_lald hx hb hK hP 3 1 rfl rfl (inb_vp hi_33) d_Pol_update_126 ?_
          obtain ⟨⟨w0_powers_34, w0_product_35⟩, hc_36, hm⟩ := gM_e hm
          dsimp only at hm
          have hPc : va_P (dC, dI) vwCl (wd_Pol_addProduct cI cJ cG cZ a0 a0_near a0_nodes a0_factors a0_powers a0_product v1_version w0_powers_14 w0_product_15) H := hP.sub [0, 4, 5] rfl
          have hDc : va_D A (wd_Pol_addProduct cI cJ cG cZ a0 a0_near a0_nodes a0_factors a0_powers a0_product v1_version w0_powers_14 w0_product_15) := hD.sub [0, 4, 5] (by decide) rfl
          have hFc : ∀ q, va_A (wd_Pol_addProduct cI cJ cG cZ a0 a0_near a0_nodes a0_factors a0_powers a0_product v1_version w0_powers_14 w0_product_15) H.size q → A q := va_free hD hS hA [0, 4, 5] rfl
          refine va_callv (va_runV (As := [.long (w0_factors_20 x2_10.toNatClampNeg)]) (rest := []) ⟨hx, hb, hml, hown, htt⟩ (c_Pol_addProduct l dC dI cI cJ cG cZ a0 a0_near a0_nodes a0_factors a0_powers a0_product H.size F v1_version w0_powers_14 w0_product_15 (w0_factors_20 x2_10.toNatClampNeg) w0_powers_34 w0_product_35 hc_36) (cwV 1 htt (gdV kt_417 kt_419 kp_18 kt_4 kt_420) rfl rfl rfl (by decide +kernel) ⟨(Nat.le_of_ble_eq_true rfl), (Nat.le_of_ble_eq_true rfl)⟩) ⟨PcS_blind, va_recv hK hPc (ci := 3) (q0 := 0) rfl rfl, PcS_in hPc hK hDc hNw⟩ rfl rfl hl.1 rfl (lv_room (Nat.le_of_ble_eq_true rfl)) d_Pol_update_127 ⟨Nat.zero_le _, Nat.zero_le _⟩) hS (fun q _ h => hFc q h) hFc (fun u t H1 locs ht hvm hw hB hz1 hk1 hS => ?_)
          obtain ⟨hP1, hK1, hD1⟩ := hB
          rw [ht] at hP1
          obtain ⟨hP, hD⟩ := va_joinQ (wr := [(a0_near, .inl (cG, 68, .inr (.inr (.inr (.inr (gO r0_near 68)))))), (a0_nodes, .inl (cI, 68, .inl w0_nodes_19)), (a0_factors, .inl (cJ, 68, .inr (.inl w0_factors_20))), (a1, .inr (1, [.ref a1_near, .ref a1_tail, .ref a1_head, .int v1_nodes, .int v1_arcCount, .int v1_version])), (a1_near, .inl (cI, 12, .inl w1_near))]) (w1 := (wd_Pol_addProduct cI cJ cG cZ a0 a0_near a0_nodes a0_factors a0_powers a0_product v1_version w0_powers_34 w0_product_35)) hP hD [0, 4, 5] [1, 2, 3, 6, 7] rfl rfl (by decide) (by decide) hk1 hFc hP1 hD1
          have hP : va_P (dC, dI) vwCl (wd_Pol_update cI cJ cG cZ a0 a1 a0_near a0_nodes a0_factors a0_powers a0_product a1_near a1_tail a1_head r0_near v1_version w0_nodes_19 w0_factors_20 w0_powers_34 w0_product_35 v1_nodes v1_arcCount v1_version w1_near w0_near_16) H1 := hP.part [5, 0, 1, 2, 6, 7, 3, 4] rfl
          have hD : va_D A (wd_Pol_update cI cJ cG cZ a0 a1 a0_near a0_nodes a0_factors a0_powers a0_product a1_near a1_tail a1_head r0_near v1_version w0_nodes_19 w0_factors_20 w0_powers_34 w0_product_35 v1_nodes v1_arcCount v1_version w1_near w0_near_16) := hD.part [5, 0, 1, 2, 6, 7, 3, 4] (by decide) rfl
          clear hP1 hK1 hD1 hk1 hPc hDc hFc ht hvm hz1
          generalize H1 = H at hP hS ⊢
          obtain ⟨x2_38, ex2_38⟩ : ∃ y : Int32, y = x2_10 + (-1) := ⟨_, rfl⟩
          have hm := gB_at ex2_38 hm
          refine lv_iinc (v := x2_38) (lv' := [(2, .int x2_38), (0, .ref a0), (3, .int x3_11)]) hx hb d_Pol_update_130 hl (k := 1) rfl (by rw [ex2_38]; rfl) (by decide) rfl (fun ls hl => ?_)
          refine lv_goto (tgt := 146) hx hb d_Pol_update_133 (by decide) ?_
          obtain ⟨x3_39, ex3_39⟩ : ∃ y : Int32, y = x3_11 + 1 := ⟨_, rfl⟩
          have hm := gB_at ex3_39 hm
          refine lv_iinc (v := x3_39) (lv' := [(3, .int x3_39), (2, .int x2_38), (0, .ref a0)]) hx hb d_Pol_update_146 hl (k := 2) rfl (by rw [ex3_39]; rfl) (by decide) rfl (fun ls hl => ?_)
          refine lv_goto (tgt := 66) hx hb d_Pol_update_149 (by decide) ?_
          exact ih_66 _ hm _ _ _ _ _ _ _ rfl ls H locs (lv_sub hl [2, 1, 0] rfl) hP hD hS
        clear hJ_120
        refine lv_if_eq (tgt := 120) hx hb d_Pol_update_109 (by decide) (fun c_40 => ?_) (fun c_40 => ?_)
        · have hm := ite_t c_40 hm
          exact jp_120 ls H locs hm (lv_sub hl [1, 2, 3] rfl) hP hD hS
        · have hm := ite_f c_40 hm
          refine lv_iload_n hx hb d_Pol_update_112 rfl (lv_at hl 2 rfl) ?_
          refine lv_iconst (v := 1) hx hb d_Pol_update_113 (by decide) ?_
          refine lv_iadd hx hb d_Pol_update_114 ?_
          refine lv_bipush (v := 68) hx hb d_Pol_update_115 (by decide) ?_
          refine lv_icmp_lt (tgt := 136) hx hb d_Pol_update_117 (by decide) (fun c_41 => ?_) (fun c_41 => ?_)
          · have hm := ite_t c_41 hm
            refine lv_aload_n hx hb d_Pol_update_136 rfl (lv_at hl 1 rfl) ?_
            refine lv_iload_n hx hb d_Pol_update_137 rfl (lv_at hl 2 rfl) ?_
            refine lv_iload hx hb d_Pol_update_138 (lv_at hl 0 rfl) ?_
            obtain ⟨⟨w0_nodes_42, w0_factors_43, w0_near_44⟩, hc_45, hm⟩ := gM_e hm
            dsimp only at hm
            have hPc : va_P (dC, dI) vwCl (wd_Pol_splitTop cI cJ cG cZ a0 a0_near a0_nodes a0_factors a0_powers a0_product r0_near v1_version w0_nodes_19 w0_factors_20 w0_near_16) H := hP.part [0, 1, 2, 3] rfl
            have hDc : va_D A (wd_Pol_splitTop cI cJ cG cZ a0 a0_near a0_nodes a0_factors a0_powers a0_product r0_near v1_version w0_nodes_19 w0_factors_20 w0_near_16) := hD.part [0, 1, 2, 3] (by decide) rfl
            have hFc : ∀ q, va_A (wd_Pol_splitTop cI cJ cG cZ a0 a0_near a0_nodes a0_factors a0_powers a0_product r0_near v1_version w0_nodes_19 w0_factors_20 w0_near_16) H.size q → A q := va_freeP hD hS hA [0, 1, 2, 3] rfl
            refine va_callv (va_runV (As := [.int x2_10, .int q_30]) (rest := []) ⟨hx, hb, hml, hown, htt⟩ (c_Pol_splitTop l dC dI cI cJ cG cZ a0 a0_near a0_nodes a0_factors a0_powers a0_product r0_near H.size F v1_version w0_nodes_19 w0_factors_20 w0_near_16 x2_10 q_30 w0_nodes_42 w0_factors_43 w0_near_44 hc_45) (cwV 2 htt (gdV kt_421 kt_423 kp_19 kt_4 kt_424) rfl rfl rfl (by decide +kernel) ⟨(Nat.le_of_ble_eq_true rfl), (Nat.le_of_ble_eq_true rfl)⟩) ⟨PcS_blind, va_recv hK hPc (ci := 3) (q0 := 0) rfl rfl, PcS_in hPc hK hDc hNw⟩ rfl rfl hl.1 rfl (lv_room (Nat.le_of_ble_eq_true rfl)) d_Pol_update_140 ⟨Nat.zero_le _, Nat.zero_le _⟩) hS (fun q _ h => hFc q h) hFc (fun u t H1 locs ht hvm hw hB hz1 hk1 hS => ?_)
            obtain ⟨hP1, hK1, hD1⟩ := hB
            rw [ht] at hP1
            obtain ⟨hP, hD⟩ := va_joinP (wr := [(a0_powers, .inl (cJ, 13, .inr (.inl w0_powers_14))), (a0_product, .inl (cJ, 13, .inr (.inl w0_product_15))), (a1, .inr (1, [.ref a1_near, .ref a1_tail, .ref a1_head, .int v1_nodes, .int v1_arcCount, .int v1_version])), (a1_near, .inl (cI, 12, .inl w1_near))]) (rx := (we_Pol_splitTop cI cJ cG cZ a0 a0_near a0_nodes a0_factors a0_powers a0_product r0_near v1_version w0_nodes_42 w0_factors_43 w0_near_44)) hP hD [0, 1, 2, 3] [4, 5, 6, 7] rfl rfl (by decide) (by decide) hk1 hFc hP1 hD1
            have hP : va_P (dC, dI) vwCl (wd_Pol_update cI cJ cG cZ a0 a1 a0_near a0_nodes a0_factors a0_powers a0_product a1_near a1_tail a1_head r0_near v1_version w0_nodes_42 w0_factors_43 w0_powers_14 w0_product_15 v1_nodes v1_arcCount v1_version w1_near w0_near_44) H1 := hP.part [4, 5, 6, 7, 0, 1, 2, 3] rfl
            have hD : va_D A (wd_Pol_update cI cJ cG cZ a0 a1 a0_near a0_nodes a0_factors a0_powers a0_product a1_near a1_tail a1_head r0_near v1_version w0_nodes_42 w0_factors_43 w0_powers_14 w0_product_15 v1_nodes v1_arcCount v1_version w1_near w0_near_44) := hD.part [4, 5, 6, 7, 0, 1, 2, 3] (by decide) rfl
            clear hP1 hK1 hD1 hk1 hPc hDc hFc ht hvm hz1
            generalize H1 = H at hP hS ⊢
            obtain ⟨x2_47, ex2_47⟩ : ∃ y : Int32, y = x2_10 + 1 := ⟨_, rfl⟩
            have hm := gB_at ex2_47 hm
            refine lv_iinc (v := x2_47) (lv' := [(2, .int x2_47), (4, .int q_30), (0, .ref a0), (3, .int x3_11)]) hx hb d_Pol_update_143 hl (k := 2) rfl (by rw [ex2_47]; rfl) (by decide) rfl (fun ls hl => ?_)
            obtain ⟨x3_48, ex3_48⟩ : ∃ y : Int32, y = x3_11 + 1 := ⟨_, rfl⟩
            have hm := gB_at ex3_48 hm
            refine lv_iinc (v := x3_48) (lv' := [(3, .int x3_48), (2, .int x2_47), (4, .int q_30), (0, .ref a0)]) hx hb d_Pol_update_146 hl (k := 3) rfl (by rw [ex3_48]; rfl) (by decide) rfl (fun ls hl => ?_)
            refine lv_goto (tgt := 66) hx hb d_Pol_update_149 (by decide) ?_
            exact ih_66 _ hm _ _ _ _ _ _ _ rfl ls H locs (lv_sub hl [3, 1, 0] rfl) hP hD hS
          · have hm := ite_f c_41 hm
            exact jp_120 ls H locs hm (lv_sub hl [1, 2, 3] rfl) hP hD hS
  · have hm := ite_t c_1 hm
    cases hm
    exact W.vret hx hb hr (fun t ht hW => ⟨⟨(), rfl, trivial, by rw [ht]; exact hP, va_K.moved hW.alike hK, hD⟩, hS.F ht⟩) hS.2.2 d_Pol_update_11
theorem d_Pol_valueAt_0 : decode prog_6_method_2_code 0 = .ok (.aload_n 0, 1) := by decide +kernel
theorem d_Pol_valueAt_1 : decode prog_6_method_2_code 1 = .ok (.aload_n 1, 1) := by decide +kernel
theorem d_Pol_valueAt_2 : decode prog_6_method_2_code 2 = .ok (.invokevirtual 34, 3) := by decide +kernel
theorem d_Pol_valueAt_5 : decode prog_6_method_2_code 5 = .ok (.lconst 0, 1) := by decide +kernel
theorem d_Pol_valueAt_6 : decode prog_6_method_2_code 6 = .ok (.lstore 4, 2) := by decide +kernel
theorem d_Pol_valueAt_8 : decode prog_6_method_2_code 8 = .ok (.aload_n 1, 1) := by decide +kernel
theorem d_Pol_valueAt_9 : decode prog_6_method_2_code 9 = .ok (.getfield 38, 3) := by decide +kernel
theorem d_Pol_valueAt_12 : decode prog_6_method_2_code 12 = .ok (.istore 6, 2) := by decide +kernel
theorem d_Pol_valueAt_14 : decode prog_6_method_2_code 14 = .ok (.iload 6, 2) := by decide +kernel
theorem d_Pol_valueAt_16 : decode prog_6_method_2_code 16 = .ok (.ifCond .lt 23, 3) := by decide +kernel
theorem d_Pol_valueAt_19 : decode prog_6_method_2_code 19 = .ok (.lload 4, 2) := by decide +kernel
theorem d_Pol_valueAt_21 : decode prog_6_method_2_code 21 = .ok (.lload_n 2, 1) := by decide +kernel
theorem d_Pol_valueAt_22 : decode prog_6_method_2_code 22 = .ok (.lmul, 1) := by decide +kernel
theorem d_Pol_valueAt_23 : decode prog_6_method_2_code 23 = .ok (.aload_n 0, 1) := by decide +kernel
theorem d_Pol_valueAt_24 : decode prog_6_method_2_code 24 = .ok (.getfield 24, 3) := by decide +kernel
theorem d_Pol_valueAt_27 : decode prog_6_method_2_code 27 = .ok (.iload 6, 2) := by decide +kernel
theorem d_Pol_valueAt_29 : decode prog_6_method_2_code 29 = .ok (.laload, 1) := by decide +kernel
theorem d_Pol_valueAt_30 : decode prog_6_method_2_code 30 = .ok (.ladd, 1) := by decide +kernel
theorem d_Pol_valueAt_31 : decode prog_6_method_2_code 31 = .ok (.lstore 4, 2) := by decide +kernel
theorem d_Pol_valueAt_33 : decode prog_6_method_2_code 33 = .ok (.iinc 6 (-1), 3) := by decide +kernel
theorem d_Pol_valueAt_36 : decode prog_6_method_2_code 36 = .ok (.goto (-22), 3) := by decide +kernel
theorem d_Pol_valueAt_39 : decode prog_6_method_2_code 39 = .ok (.lload 4, 2) := by decide +kernel
theorem d_Pol_valueAt_41 : decode prog_6_method_2_code 41 = .ok (.lreturn, 1) := by decide +kernel
abbrev wd_Pol_valueAt (cI cJ cG cZ : ClassId) (a0 a1 a0_near a0_nodes a0_factors a0_powers a0_product a1_near a1_tail a1_head : Nat) (r0_near : Nat → Nat) (v0_versionSeen : Int32) (w0_nodes : Nat → Int32) (w0_factors : Nat → Int64) (w0_powers : Nat → Int64) (w0_product : Nat → Int64) (v1_nodes : Int32) (v1_arcCount : Int32) (v1_version : Int32) (w1_near : Nat → Int32) (w0_near : Nat → Nat → Int32) : va_W := [(a0, .inr (3, [.ref a0_near, .ref a0_nodes, .ref a0_factors, .ref a0_powers, .ref a0_product, .int v0_versionSeen])), (a0_near, .inl (cG, 68, .inr (.inr (.inr (.inr (gO r0_near 68)))))), (a0_nodes, .inl (cI, 68, .inl w0_nodes)), (a0_factors, .inl (cJ, 68, .inr (.inl w0_factors))), (a0_powers, .inl (cJ, 13, .inr (.inl w0_powers))), (a0_product, .inl (cJ, 13, .inr (.inl w0_product))), (a1, .inr (1, [.ref a1_near, .ref a1_tail, .ref a1_head, .int v1_nodes, .int v1_arcCount, .int v1_version])), (a1_near, .inl (cI, 12, .inl w1_near))] ++ rowsW r0_near cI 12 68 w0_near
abbrev we_Pol_valueAt (cI cJ cG cZ : ClassId) (a0 a1 a0_near a0_nodes a0_factors a0_powers a0_product a1_near a1_tail a1_head : Nat) (r0_near : Nat → Nat) (v0_versionSeen : Int32) (w0_nodes : Nat → Int32) (w0_factors : Nat → Int64) (w0_powers : Nat → Int64) (w0_product : Nat → Int64) (v1_nodes : Int32) (v1_arcCount : Int32) (v1_version : Int32) (w1_near : Nat → Int32) (w0_near : Nat → Nat → Int32) : va_W := [(a0, .inr (3, [.ref a0_near, .ref a0_nodes, .ref a0_factors, .ref a0_powers, .ref a0_product, .int v0_versionSeen])), (a0_near, .inl (cG, 68, .inr (.inr (.inr (.inr (gO r0_near 68)))))), (a0_nodes, .inl (cI, 68, .inl w0_nodes)), (a0_factors, .inl (cJ, 68, .inr (.inl w0_factors))), (a0_powers, .inl (cJ, 13, .inr (.inl w0_powers))), (a0_product, .inl (cJ, 13, .inr (.inl w0_product))), (a1, .inr (1, [.ref a1_near, .ref a1_tail, .ref a1_head, .int v1_nodes, .int v1_arcCount, .int v1_version])), (a1_near, .inl (cI, 12, .inl w1_near))]
abbrev us_Pol_valueAt : List Cond := .code y_Pol_valueAt prog_6_method_2_code 7 (some .long) :: gtbl
abbrev rm_Pol_valueAt : Room := { frames := 4, cells := 0, slots := 0, locals := 90 }
def m_Pol_valueAt (F : Nat) (v0_versionSeen : Int32) (w0_nodes : Nat → Int32) (w0_factors : Nat → Int64) (w0_powers : Nat → Int64) (w0_product : Nat → Int64) (v1_nodes : Int32) (v1_arcCount : Int32) (v1_version : Int32) (w1_near : Nat → Int32) (w0_near : Nat → Nat → Int32) (p2 : Int64) : Option (Int64 × Int32 × (Nat → Int32) × (Nat → Int64) × (Nat → Int64) × (Nat → Int64) × (Nat → Nat → Int32)) :=
  gM (m_Pol_update F v0_versionSeen w0_nodes w0_factors w0_powers w0_product v1_nodes v1_arcCount v1_version w1_near w0_near) (fun (z_8 : Int32 × (Nat → Int32) × (Nat → Int64) × (Nat → Int64) × (Nat → Int64) × (Nat → Nat → Int32)) => match z_8 with
  | (v0_versionSeen_1, w0_nodes_2, w0_factors_3, w0_powers_4, w0_product_5, w0_near_6) =>
  gL (fun (k_14 : (Int64 × Int32) → Option (Int64 × Int32 × (Nat → Int32) × (Nat → Int64) × (Nat → Int64) × (Nat → Int64) × (Nat → Nat → Int32))) (z_14 : Int64 × Int32) => match z_14 with
  | (x4_9, x6_10) =>
  if x6_10 < 0 then (
    some (x4_9, v0_versionSeen_1, w0_nodes_2, w0_factors_3, w0_powers_4, w0_product_5, w0_near_6)
  ) else (
    gC (inb x6_10 13) (
    gB ((x4_9 * p2) + (w0_powers_4 x6_10.toNatClampNeg)) (fun x4_13 =>
    gB (x6_10 + (-1)) (fun x6_14 =>
    k_14 (x4_13, x6_14))))
  )
  ) F (0, v1_nodes))
set_option maxHeartbeats 4000000 in
set_option maxRecDepth 100000 in
theorem c_Pol_valueAt (l : Launch) (dC : Nat → ClassId) (dI : Nat → Nat → Nat) (cI cJ cG cZ : ClassId) (a0 a1 a0_near a0_nodes a0_factors a0_powers a0_product a1_near a1_tail a1_head : Nat) (r0_near : Nat → Nat) (sz : Nat) (F : Nat) (v0_versionSeen : Int32) (w0_nodes : Nat → Int32) (w0_factors : Nat → Int64) (w0_powers : Nat → Int64) (w0_product : Nat → Int64) (v1_nodes : Int32) (v1_arcCount : Int32) (v1_version : Int32) (w1_near : Nat → Int32) (w0_near : Nat → Nat → Int32) (p2 : Int64) (ret : Int64) (o_v0_versionSeen : Int32) (o_w0_nodes : Nat → Int32) (o_w0_factors : Nat → Int64) (o_w0_powers : Nat → Int64) (o_w0_product : Nat → Int64) (o_w0_near : Nat → Nat → Int32) (hm : m_Pol_valueAt F v0_versionSeen w0_nodes w0_factors w0_powers w0_product v1_nodes v1_arcCount v1_version w1_near w0_near p2 = some (ret, o_v0_versionSeen, o_w0_nodes, o_w0_factors, o_w0_powers, o_w0_product, o_w0_near)) : Met l y_Pol_valueAt us_Pol_valueAt rm_Pol_valueAt (PcS (dC, dI) (tyL cI cJ cG cZ) [.ref a0, .ref a1, .long p2] sz (wd_Pol_valueAt cI cJ cG cZ a0 a1 a0_near a0_nodes a0_factors a0_powers a0_product a1_near a1_tail a1_head r0_near v0_versionSeen w0_nodes w0_factors w0_powers w0_product v1_nodes v1_arcCount v1_version w1_near w0_near)) (va_Ql (fun (r : Int64) (_ : Unit) => ret = r) (fun _ t => PoS (dC, dI) (tyL cI cJ cG cZ) (wd_Pol_valueAt cI cJ cG cZ a0 a1 a0_near a0_nodes a0_factors a0_powers a0_product a1_near a1_tail a1_head r0_near o_v0_versionSeen o_w0_nodes o_w0_factors o_w0_powers o_w0_product v1_nodes v1_arcCount v1_version w1_near o_w0_near) (va_A (wd_Pol_valueAt cI cJ cG cZ a0 a1 a0_near a0_nodes a0_factors a0_powers a0_product a1_near a1_tail a1_head r0_near v0_versionSeen w0_nodes w0_factors w0_powers w0_product v1_nodes v1_arcCount v1_version w1_near w0_near) sz) t) (va_A (wd_Pol_valueAt cI cJ cG cZ a0 a1 a0_near a0_nodes a0_factors a0_powers a0_product a1_near a1_tail a1_head r0_near v0_versionSeen w0_nodes w0_factors w0_powers w0_product v1_nodes v1_arcCount v1_version w1_near w0_near) sz)) 0 0 (va_A (wd_Pol_valueAt cI cJ cG cZ a0 a1 a0_near a0_nodes a0_factors a0_powers a0_product a1_near a1_tail a1_head r0_near v0_versionSeen w0_nodes w0_factors w0_powers w0_product v1_nodes v1_arcCount v1_version w1_near w0_near) sz) := by
  refine Met.ofW (cc := prog_6_method_2_code) (maxL := 7) (ret := (some .long)) (by decide) rfl ?_
  intro p e s m args below meth c s₁ B hml hv
  obtain ⟨rfl, hsz, hP, hK, hD0, hNw⟩ := hv
  have hx := B.exec
  have hb := B.bytes
  have hr := B.returns
  have htt : ∀ w ∈ gtbl, w.before _ s = true := fun w h => atoms_spec (ws := us_Pol_valueAt) B.pre w (List.mem_cons_of_mem _ h)
  have hown : s.vm.findClass R_Pol = some m.cls := findClass_of_methodNamed B.named
  have hlocks := B.notSynchronized
  subst hsz
  have hD := hD0.self (sz := s.heap.size)
  generalize hAe : va_A (wd_Pol_valueAt cI cJ cG cZ a0 a1 a0_near a0_nodes a0_factors a0_powers a0_product a1_near a1_tail a1_head r0_near v0_versionSeen w0_nodes w0_factors w0_powers w0_product v1_nodes v1_arcCount v1_version w1_near w0_near) s.heap.size = A at hD ⊢
  have hA : ∀ q : Nat, s.heap.size ≤ q → A q := fun q h => by rw [← hAe]; exact Or.inr h
  clear hAe hD0
  have hS : va_S A s.heap s.heap [] := va_S.rf
  have hl := lv_entry ([.ref a0, .ref a1, .long p2]) (n := 7) (Nat.le_of_ble_eq_true rfl)
  rw [lg_entry_eq]
  generalize (lg_sl ([.ref a0, .ref a1, .long p2]) ++ List.replicate (7 - (lg_sl ([.ref a0, .ref a1, .long p2])).length) Slot.unset).toArray = ls at hl ⊢
  have hl : lv_has ls 7 [(0, .ref a0), (1, .ref a1), (2, .long p2)] := hl
  generalize hH : s.heap = H at hP ⊢
  have hS : va_S A s.heap H [] := hH ▸ hS
  generalize hLo : ([] : List Loc) = locs at hS ⊢
  clear hH hLo
  unfold m_Pol_valueAt at hm
  refine lv_aload_n hx hb d_Pol_valueAt_0 rfl (lv_at hl 0 rfl) ?_
  refine lv_aload_n hx hb d_Pol_valueAt_1 rfl (lv_at hl 1 rfl) ?_
  obtain ⟨⟨v0_versionSeen_1, w0_nodes_2, w0_factors_3, w0_powers_4, w0_product_5, w0_near_6⟩, hc_7, hm⟩ := gM_e hm
  dsimp only at hm
  have hPc : va_P (dC, dI) vwCl (wd_Pol_update cI cJ cG cZ a0 a1 a0_near a0_nodes a0_factors a0_powers a0_product a1_near a1_tail a1_head r0_near v0_versionSeen w0_nodes w0_factors w0_powers w0_product v1_nodes v1_arcCount v1_version w1_near w0_near) H := hP.part [0, 1, 2, 3, 4, 5, 6, 7] rfl
  have hDc : va_D A (wd_Pol_update cI cJ cG cZ a0 a1 a0_near a0_nodes a0_factors a0_powers a0_product a1_near a1_tail a1_head r0_near v0_versionSeen w0_nodes w0_factors w0_powers w0_product v1_nodes v1_arcCount v1_version w1_near w0_near) := hD.part [0, 1, 2, 3, 4, 5, 6, 7] (by decide) rfl
  have hFc : ∀ q, va_A (wd_Pol_update cI cJ cG cZ a0 a1 a0_near a0_nodes a0_factors a0_powers a0_product a1_near a1_tail a1_head r0_near v0_versionSeen w0_nodes w0_factors w0_powers w0_product v1_nodes v1_arcCount v1_version w1_near w0_near) H.size q → A q := va_freeP hD hS hA [0, 1, 2, 3, 4, 5, 6, 7] rfl
  refine va_callv (va_runV (As := [.ref a1]) (rest := []) ⟨hx, hb, hml, hown, htt⟩ (c_Pol_update l dC dI cI cJ cG cZ a0 a1 a0_near a0_nodes a0_factors a0_powers a0_product a1_near a1_tail a1_head r0_near H.size F v0_versionSeen w0_nodes w0_factors w0_powers w0_product v1_nodes v1_arcCount v1_version w1_near w0_near v0_versionSeen_1 w0_nodes_2 w0_factors_3 w0_powers_4 w0_product_5 w0_near_6 hc_7) (cwV 1 htt (gdV kt_391 kt_393 kp_14 kt_4 kt_394) rfl rfl rfl (by decide +kernel) ⟨(Nat.le_of_ble_eq_true rfl), (Nat.le_of_ble_eq_true rfl)⟩) ⟨PcS_blind, va_recv hK hPc (ci := 3) (q0 := 0) rfl rfl, PcS_in hPc hK hDc hNw⟩ rfl rfl hl.1 rfl (lv_room (Nat.le_of_ble_eq_true rfl)) d_Pol_valueAt_2 ⟨Nat.zero_le _, Nat.zero_le _⟩) hS (fun q _ h => hFc q h) hFc (fun u t H1 locs ht hvm hw hB hz1 hk1 hS => ?_)
  obtain ⟨hP1, hK1, hD1⟩ := hB
  rw [ht] at hP1
  obtain ⟨hP, hD⟩ := va_joinP (wr := []) (rx := (we_Pol_update cI cJ cG cZ a0 a1 a0_near a0_nodes a0_factors a0_powers a0_product a1_near a1_tail a1_head r0_near v0_versionSeen_1 w0_nodes_2 w0_factors_3 w0_powers_4 w0_product_5 v1_nodes v1_arcCount v1_version w1_near w0_near_6)) hP hD [0, 1, 2, 3, 4, 5, 6, 7] [] rfl rfl (by decide) (by decide) hk1 hFc hP1 hD1
  have hP : va_P (dC, dI) vwCl (wd_Pol_valueAt cI cJ cG cZ a0 a1 a0_near a0_nodes a0_factors a0_powers a0_product a1_near a1_tail a1_head r0_near v0_versionSeen_1 w0_nodes_2 w0_factors_3 w0_powers_4 w0_product_5 v1_nodes v1_arcCount v1_version w1_near w0_near_6) H1 := hP.part [0, 1, 2, 3, 4, 5, 6, 7] rfl
  have hD : va_D A (wd_Pol_valueAt cI cJ cG cZ a0 a1 a0_near a0_nodes a0_factors a0_powers a0_product a1_near a1_tail a1_head r0_near v0_versionSeen_1 w0_nodes_2 w0_factors_3 w0_powers_4 w0_product_5 v1_nodes v1_arcCount v1_version w1_near w0_near_6) := hD.part [0, 1, 2, 3, 4, 5, 6, 7] (by decide) rfl
  clear hP1 hK1 hD1 hk1 hPc hDc hFc ht hvm hz1
  generalize H1 = H at hP hS ⊢
  refine lv_lconst (v := 0) hx hb d_Pol_valueAt_5 (by decide) ?_
  refine lv_lstore (lv' := [(4, .long 0), (0, .ref a0), (1, .ref a1), (2, .long p2)]) hx hb d_Pol_valueAt_6 hl (by decide) rfl (fun ls hl => ?_)
  refine lv_aload_n hx hb d_Pol_valueAt_8 rfl (lv_at hl 2 rfl) ?_
  refine va_get (D := (dC, dI)) (ci := 1) (v := .int v1_nodes) (C := R_Net) (T := T_Net) (N := 6) hx hb htt hin_Net hown hK hP 6 rfl rfl 3 (by decide) (htt _ kt_49) (fun _ h9 => h9) rfl d_Pol_valueAt_9 ?_
  refine lv_istore (lv' := [(6, .int v1_nodes), (4, .long 0), (0, .ref a0), (1, .ref a1), (2, .long p2)]) hx hb d_Pol_valueAt_12 hl (by decide) rfl (fun ls hl => ?_)
  refine gL_e (P := (fun (z_14 : Int64 × Int32) => ∀ (x4_9 : Int64), ∀ (x6_10 : Int32), z_14 = (x4_9, x6_10) → ∀ (ls : Array Slot) (H : Heap) (locs : List Loc), lv_has ls 7 [(0, .ref a0), (2, .long p2), (4, .long x4_9), (6, .int x6_10)] → va_P (dC, dI) vwCl (wd_Pol_valueAt cI cJ cG cZ a0 a1 a0_near a0_nodes a0_factors a0_powers a0_product a1_near a1_tail a1_head r0_near v0_versionSeen_1 w0_nodes_2 w0_factors_3 w0_powers_4 w0_product_5 v1_nodes v1_arcCount v1_version w1_near w0_near_6) H → va_D A (wd_Pol_valueAt cI cJ cG cZ a0 a1 a0_near a0_nodes a0_factors a0_powers a0_product a1_near a1_tail a1_head r0_near v0_versionSeen_1 w0_nodes_2 w0_factors_3 w0_powers_4 w0_product_5 v1_nodes v1_arcCount v1_version w1_near w0_near_6) → va_S A s.heap H locs → W p l e (headSpec us_Pol_valueAt rm_Pol_valueAt).room s m ([.ref a0, .ref a1, .long p2] : List Value).toArray below meth c H locs 0 0 (MQ below (va_Ql (fun (r : Int64) (_ : Unit) => ret = r) (fun _ t => PoS (dC, dI) (tyL cI cJ cG cZ) (wd_Pol_valueAt cI cJ cG cZ a0 a1 a0_near a0_nodes a0_factors a0_powers a0_product a1_near a1_tail a1_head r0_near o_v0_versionSeen o_w0_nodes o_w0_factors o_w0_powers o_w0_product v1_nodes v1_arcCount v1_version w1_near o_w0_near) A t) A) ([.ref a0, .ref a1, .long p2] : List Value).toArray s 0 0 A) (F0 m 14 ls []))) hm (fun k_14 z_14 ih_14 hm => ?_) _ _ rfl ls H locs (lv_sub hl [2, 4, 1, 0] rfl) hP hD hS
  intro x4_9 x6_10 hz ls H locs hl hP hD hS
  subst hz
  dsimp only at hm
  refine lv_iload hx hb d_Pol_valueAt_14 (lv_at hl 3 rfl) ?_
  refine lv_if_lt (tgt := 39) hx hb d_Pol_valueAt_16 (by decide) (fun c_11 => ?_) (fun c_11 => ?_)
  · have hm := ite_t c_11 hm
    refine lv_lload hx hb d_Pol_valueAt_39 (lv_at hl 2 rfl) ?_
    cases hm
    exact W.lret hx hb hr (fun t ht hW => ⟨⟨_, (), rfl, rfl, by rw [ht]; exact hP, va_K.moved hW.alike hK, hD⟩, hS.F ht⟩) hS.2.2 d_Pol_valueAt_41
  · have hm := ite_f c_11 hm
    refine lv_lload hx hb d_Pol_valueAt_19 (lv_at hl 2 rfl) ?_
    refine lv_lload_n hx hb d_Pol_valueAt_21 rfl (lv_at hl 1 rfl) ?_
    refine lv_lmul hx hb d_Pol_valueAt_22 ?_
    refine lv_aload_n hx hb d_Pol_valueAt_23 rfl (lv_at hl 0 rfl) ?_
    refine va_get (D := (dC, dI)) (ci := 3) (v := .ref a0_powers) (C := R_Pol) (T := T_Pol) (N := 6) hx hb htt hin_Pol hown hK hP 0 rfl rfl 3 (by decide) (htt _ kt_123) (fun _ h9 => h9) rfl d_Pol_valueAt_24 ?_
    refine lv_iload hx hb d_Pol_valueAt_27 (lv_at hl 3 rfl) ?_
    obtain ⟨hi_12, hm⟩ := gC_e hm
    refine va_lald hx hb hK hP 4 1 rfl rfl (inb_vp hi_12) d_Pol_valueAt_29 ?_
    refine lv_ladd hx hb d_Pol_valueAt_30 ?_
    refine lv_topl (fun x4_13 ex4_13 => ?_)
    have hm := gB_at ex4_13 hm
    refine lv_lstore (lv' := [(4, .long x4_13), (0, .ref a0), (2, .long p2), (6, .int x6_10)]) hx hb d_Pol_valueAt_31 hl (by decide) rfl (fun ls hl => ?_)
    obtain ⟨x6_14, ex6_14⟩ : ∃ y : Int32, y = x6_10 + (-1) := ⟨_, rfl⟩
    have hm := gB_at ex6_14 hm
    refine lv_iinc (v := x6_14) (lv' := [(6, .int x6_14), (4, .long x4_13), (0, .ref a0), (2, .long p2)]) hx hb d_Pol_valueAt_33 hl (k := 3) rfl (by rw [ex6_14]; rfl) (by decide) rfl (fun ls hl => ?_)
    refine lv_goto (tgt := 14) hx hb d_Pol_valueAt_36 (by decide) ?_
    exact ih_14 _ hm _ _ rfl ls H locs (lv_sub hl [2, 3, 1, 0] rfl) hP hD hS
theorem d_Pol_atPower_0 : decode prog_6_method_3_code 0 = .ok (.aload_n 0, 1) := by decide +kernel
theorem d_Pol_atPower_1 : decode prog_6_method_3_code 1 = .ok (.aload_n 1, 1) := by decide +kernel
theorem d_Pol_atPower_2 : decode prog_6_method_3_code 2 = .ok (.invokevirtual 34, 3) := by decide +kernel
theorem d_Pol_atPower_5 : decode prog_6_method_3_code 5 = .ok (.iload_n 2, 1) := by decide +kernel
theorem d_Pol_atPower_6 : decode prog_6_method_3_code 6 = .ok (.ifCond .lt 20, 3) := by decide +kernel
theorem d_Pol_atPower_9 : decode prog_6_method_3_code 9 = .ok (.iload_n 2, 1) := by decide +kernel
theorem d_Pol_atPower_10 : decode prog_6_method_3_code 10 = .ok (.aload_n 1, 1) := by decide +kernel
theorem d_Pol_atPower_11 : decode prog_6_method_3_code 11 = .ok (.getfield 38, 3) := by decide +kernel
theorem d_Pol_atPower_14 : decode prog_6_method_3_code 14 = .ok (.if_icmp .gt 12, 3) := by decide +kernel
theorem d_Pol_atPower_17 : decode prog_6_method_3_code 17 = .ok (.aload_n 0, 1) := by decide +kernel
theorem d_Pol_atPower_18 : decode prog_6_method_3_code 18 = .ok (.getfield 24, 3) := by decide +kernel
theorem d_Pol_atPower_21 : decode prog_6_method_3_code 21 = .ok (.iload_n 2, 1) := by decide +kernel
theorem d_Pol_atPower_22 : decode prog_6_method_3_code 22 = .ok (.laload, 1) := by decide +kernel
theorem d_Pol_atPower_23 : decode prog_6_method_3_code 23 = .ok (.goto 4, 3) := by decide +kernel
theorem d_Pol_atPower_26 : decode prog_6_method_3_code 26 = .ok (.lconst 0, 1) := by decide +kernel
theorem d_Pol_atPower_27 : decode prog_6_method_3_code 27 = .ok (.lreturn, 1) := by decide +kernel
abbrev wd_Pol_atPower (cI cJ cG cZ : ClassId) (a0 a1 a0_near a0_nodes a0_factors a0_powers a0_product a1_near a1_tail a1_head : Nat) (r0_near : Nat → Nat) (v0_versionSeen : Int32) (w0_nodes : Nat → Int32) (w0_factors : Nat → Int64) (w0_powers : Nat → Int64) (w0_product : Nat → Int64) (v1_nodes : Int32) (v1_arcCount : Int32) (v1_version : Int32) (w1_near : Nat → Int32) (w0_near : Nat → Nat → Int32) : va_W := [(a0, .inr (3, [.ref a0_near, .ref a0_nodes, .ref a0_factors, .ref a0_powers, .ref a0_product, .int v0_versionSeen])), (a0_near, .inl (cG, 68, .inr (.inr (.inr (.inr (gO r0_near 68)))))), (a0_nodes, .inl (cI, 68, .inl w0_nodes)), (a0_factors, .inl (cJ, 68, .inr (.inl w0_factors))), (a0_powers, .inl (cJ, 13, .inr (.inl w0_powers))), (a0_product, .inl (cJ, 13, .inr (.inl w0_product))), (a1, .inr (1, [.ref a1_near, .ref a1_tail, .ref a1_head, .int v1_nodes, .int v1_arcCount, .int v1_version])), (a1_near, .inl (cI, 12, .inl w1_near))] ++ rowsW r0_near cI 12 68 w0_near
abbrev we_Pol_atPower (cI cJ cG cZ : ClassId) (a0 a1 a0_near a0_nodes a0_factors a0_powers a0_product a1_near a1_tail a1_head : Nat) (r0_near : Nat → Nat) (v0_versionSeen : Int32) (w0_nodes : Nat → Int32) (w0_factors : Nat → Int64) (w0_powers : Nat → Int64) (w0_product : Nat → Int64) (v1_nodes : Int32) (v1_arcCount : Int32) (v1_version : Int32) (w1_near : Nat → Int32) (w0_near : Nat → Nat → Int32) : va_W := [(a0, .inr (3, [.ref a0_near, .ref a0_nodes, .ref a0_factors, .ref a0_powers, .ref a0_product, .int v0_versionSeen])), (a0_near, .inl (cG, 68, .inr (.inr (.inr (.inr (gO r0_near 68)))))), (a0_nodes, .inl (cI, 68, .inl w0_nodes)), (a0_factors, .inl (cJ, 68, .inr (.inl w0_factors))), (a0_powers, .inl (cJ, 13, .inr (.inl w0_powers))), (a0_product, .inl (cJ, 13, .inr (.inl w0_product))), (a1, .inr (1, [.ref a1_near, .ref a1_tail, .ref a1_head, .int v1_nodes, .int v1_arcCount, .int v1_version])), (a1_near, .inl (cI, 12, .inl w1_near))]
abbrev us_Pol_atPower : List Cond := .code y_Pol_atPower prog_6_method_3_code 3 (some .long) :: gtbl
abbrev rm_Pol_atPower : Room := { frames := 4, cells := 0, slots := 0, locals := 90 }
def m_Pol_atPower (F : Nat) (v0_versionSeen : Int32) (w0_nodes : Nat → Int32) (w0_factors : Nat → Int64) (w0_powers : Nat → Int64) (w0_product : Nat → Int64) (v1_nodes : Int32) (v1_arcCount : Int32) (v1_version : Int32) (w1_near : Nat → Int32) (w0_near : Nat → Nat → Int32) (p2 : Int32) : Option (Int64 × Int32 × (Nat → Int32) × (Nat → Int64) × (Nat → Int64) × (Nat → Int64) × (Nat → Nat → Int32)) :=
  gM (m_Pol_update F v0_versionSeen w0_nodes w0_factors w0_powers w0_product v1_nodes v1_arcCount v1_version w1_near w0_near) (fun (z_8 : Int32 × (Nat → Int32) × (Nat → Int64) × (Nat → Int64) × (Nat → Int64) × (Nat → Nat → Int32)) => match z_8 with
  | (v0_versionSeen_1, w0_nodes_2, w0_factors_3, w0_powers_4, w0_product_5, w0_near_6) =>
  if p2 < 0 then (
    some (0, v0_versionSeen_1, w0_nodes_2, w0_factors_3, w0_powers_4, w0_product_5, w0_near_6)
  ) else (
    if v1_nodes < p2 then (
      some (0, v0_versionSeen_1, w0_nodes_2, w0_factors_3, w0_powers_4, w0_product_5, w0_near_6)
    ) else (
      gC (inb p2 13) (
      some (w0_powers_4 p2.toNatClampNeg, v0_versionSeen_1, w0_nodes_2, w0_factors_3, w0_powers_4, w0_product_5, w0_near_6))
    )
  ))
set_option maxHeartbeats 4000000 in
set_option maxRecDepth 100000 in
theorem c_Pol_atPower (l : Launch) (dC : Nat → ClassId) (dI : Nat → Nat → Nat) (cI cJ cG cZ : ClassId) (a0 a1 a0_near a0_nodes a0_factors a0_powers a0_product a1_near a1_tail a1_head : Nat) (r0_near : Nat → Nat) (sz : Nat) (F : Nat) (v0_versionSeen : Int32) (w0_nodes : Nat → Int32) (w0_factors : Nat → Int64) (w0_powers : Nat → Int64) (w0_product : Nat → Int64) (v1_nodes : Int32) (v1_arcCount : Int32) (v1_version : Int32) (w1_near : Nat → Int32) (w0_near : Nat → Nat → Int32) (p2 : Int32) (ret : Int64) (o_v0_versionSeen : Int32) (o_w0_nodes : Nat → Int32) (o_w0_factors : Nat → Int64) (o_w0_powers : Nat → Int64) (o_w0_product : Nat → Int64) (o_w0_near : Nat → Nat → Int32) (hm : m_Pol_atPower F v0_versionSeen w0_nodes w0_factors w0_powers w0_product v1_nodes v1_arcCount v1_version w1_near w0_near p2 = some (ret, o_v0_versionSeen, o_w0_nodes, o_w0_factors, o_w0_powers, o_w0_product, o_w0_near)) : Met l y_Pol_atPower us_Pol_atPower rm_Pol_atPower (PcS (dC, dI) (tyL cI cJ cG cZ) [.ref a0, .ref a1, .int p2] sz (wd_Pol_atPower cI cJ cG cZ a0 a1 a0_near a0_nodes a0_factors a0_powers a0_product a1_near a1_tail a1_head r0_near v0_versionSeen w0_nodes w0_factors w0_powers w0_product v1_nodes v1_arcCount v1_version w1_near w0_near)) (va_Ql (fun (r : Int64) (_ : Unit) => ret = r) (fun _ t => PoS (dC, dI) (tyL cI cJ cG cZ) (wd_Pol_atPower cI cJ cG cZ a0 a1 a0_near a0_nodes a0_factors a0_powers a0_product a1_near a1_tail a1_head r0_near o_v0_versionSeen o_w0_nodes o_w0_factors o_w0_powers o_w0_product v1_nodes v1_arcCount v1_version w1_near o_w0_near) (va_A (wd_Pol_atPower cI cJ cG cZ a0 a1 a0_near a0_nodes a0_factors a0_powers a0_product a1_near a1_tail a1_head r0_near v0_versionSeen w0_nodes w0_factors w0_powers w0_product v1_nodes v1_arcCount v1_version w1_near w0_near) sz) t) (va_A (wd_Pol_atPower cI cJ cG cZ a0 a1 a0_near a0_nodes a0_factors a0_powers a0_product a1_near a1_tail a1_head r0_near v0_versionSeen w0_nodes w0_factors w0_powers w0_product v1_nodes v1_arcCount v1_version w1_near w0_near) sz)) 0 0 (va_A (wd_Pol_atPower cI cJ cG cZ a0 a1 a0_near a0_nodes a0_factors a0_powers a0_product a1_near a1_tail a1_head r0_near v0_versionSeen w0_nodes w0_factors w0_powers w0_product v1_nodes v1_arcCount v1_version w1_near w0_near) sz) := by
  refine Met.ofW (cc := prog_6_method_3_code) (maxL := 3) (ret := (some .long)) (by decide) rfl ?_
  intro p e s m args below meth c s₁ B hml hv
  obtain ⟨rfl, hsz, hP, hK, hD0, hNw⟩ := hv
  have hx := B.exec
  have hb := B.bytes
  have hr := B.returns
  have htt : ∀ w ∈ gtbl, w.before _ s = true := fun w h => atoms_spec (ws := us_Pol_atPower) B.pre w (List.mem_cons_of_mem _ h)
  have hown : s.vm.findClass R_Pol = some m.cls := findClass_of_methodNamed B.named
  have hlocks := B.notSynchronized
  subst hsz
  have hD := hD0.self (sz := s.heap.size)
  generalize hAe : va_A (wd_Pol_atPower cI cJ cG cZ a0 a1 a0_near a0_nodes a0_factors a0_powers a0_product a1_near a1_tail a1_head r0_near v0_versionSeen w0_nodes w0_factors w0_powers w0_product v1_nodes v1_arcCount v1_version w1_near w0_near) s.heap.size = A at hD ⊢
  have hA : ∀ q : Nat, s.heap.size ≤ q → A q := fun q h => by rw [← hAe]; exact Or.inr h
  clear hAe hD0
  have hS : va_S A s.heap s.heap [] := va_S.rf
  have hl := lv_entry ([.ref a0, .ref a1, .int p2]) (n := 3) (Nat.le_of_ble_eq_true rfl)
  rw [lg_entry_eq]
  generalize (lg_sl ([.ref a0, .ref a1, .int p2]) ++ List.replicate (3 - (lg_sl ([.ref a0, .ref a1, .int p2])).length) Slot.unset).toArray = ls at hl ⊢
  have hl : lv_has ls 3 [(0, .ref a0), (1, .ref a1), (2, .int p2)] := hl
  generalize hH : s.heap = H at hP ⊢
  have hS : va_S A s.heap H [] := hH ▸ hS
  generalize hLo : ([] : List Loc) = locs at hS ⊢
  clear hH hLo
  unfold m_Pol_atPower at hm
  refine lv_aload_n hx hb d_Pol_atPower_0 rfl (lv_at hl 0 rfl) ?_
  refine lv_aload_n hx hb d_Pol_atPower_1 rfl (lv_at hl 1 rfl) ?_
  obtain ⟨⟨v0_versionSeen_1, w0_nodes_2, w0_factors_3, w0_powers_4, w0_product_5, w0_near_6⟩, hc_7, hm⟩ := gM_e hm
  dsimp only at hm
  have hPc : va_P (dC, dI) vwCl (wd_Pol_update cI cJ cG cZ a0 a1 a0_near a0_nodes a0_factors a0_powers a0_product a1_near a1_tail a1_head r0_near v0_versionSeen w0_nodes w0_factors w0_powers w0_product v1_nodes v1_arcCount v1_version w1_near w0_near) H := hP.part [0, 1, 2, 3, 4, 5, 6, 7] rfl
  have hDc : va_D A (wd_Pol_update cI cJ cG cZ a0 a1 a0_near a0_nodes a0_factors a0_powers a0_product a1_near a1_tail a1_head r0_near v0_versionSeen w0_nodes w0_factors w0_powers w0_product v1_nodes v1_arcCount v1_version w1_near w0_near) := hD.part [0, 1, 2, 3, 4, 5, 6, 7] (by decide) rfl
  have hFc : ∀ q, va_A (wd_Pol_update cI cJ cG cZ a0 a1 a0_near a0_nodes a0_factors a0_powers a0_product a1_near a1_tail a1_head r0_near v0_versionSeen w0_nodes w0_factors w0_powers w0_product v1_nodes v1_arcCount v1_version w1_near w0_near) H.size q → A q := va_freeP hD hS hA [0, 1, 2, 3, 4, 5, 6, 7] rfl
  refine va_callv (va_runV (As := [.ref a1]) (rest := []) ⟨hx, hb, hml, hown, htt⟩ (c_Pol_update l dC dI cI cJ cG cZ a0 a1 a0_near a0_nodes a0_factors a0_powers a0_product a1_near a1_tail a1_head r0_near H.size F v0_versionSeen w0_nodes w0_factors w0_powers w0_product v1_nodes v1_arcCount v1_version w1_near w0_near v0_versionSeen_1 w0_nodes_2 w0_factors_3 w0_powers_4 w0_product_5 w0_near_6 hc_7) (cwV 1 htt (gdV kt_391 kt_393 kp_14 kt_4 kt_394) rfl rfl rfl (by decide +kernel) ⟨(Nat.le_of_ble_eq_true rfl), (Nat.le_of_ble_eq_true rfl)⟩) ⟨PcS_blind, va_recv hK hPc (ci := 3) (q0 := 0) rfl rfl, PcS_in hPc hK hDc hNw⟩ rfl rfl hl.1 rfl (lv_room (Nat.le_of_ble_eq_true rfl)) d_Pol_atPower_2 ⟨Nat.zero_le _, Nat.zero_le _⟩) hS (fun q _ h => hFc q h) hFc (fun u t H1 locs ht hvm hw hB hz1 hk1 hS => ?_)
  obtain ⟨hP1, hK1, hD1⟩ := hB
  rw [ht] at hP1
  obtain ⟨hP, hD⟩ := va_joinP (wr := []) (rx := (we_Pol_update cI cJ cG cZ a0 a1 a0_near a0_nodes a0_factors a0_powers a0_product a1_near a1_tail a1_head r0_near v0_versionSeen_1 w0_nodes_2 w0_factors_3 w0_powers_4 w0_product_5 v1_nodes v1_arcCount v1_version w1_near w0_near_6)) hP hD [0, 1, 2, 3, 4, 5, 6, 7] [] rfl rfl (by decide) (by decide) hk1 hFc hP1 hD1
  have hP : va_P (dC, dI) vwCl (wd_Pol_atPower cI cJ cG cZ a0 a1 a0_near a0_nodes a0_factors a0_powers a0_product a1_near a1_tail a1_head r0_near v0_versionSeen_1 w0_nodes_2 w0_factors_3 w0_powers_4 w0_product_5 v1_nodes v1_arcCount v1_version w1_near w0_near_6) H1 := hP.part [0, 1, 2, 3, 4, 5, 6, 7] rfl
  have hD : va_D A (wd_Pol_atPower cI cJ cG cZ a0 a1 a0_near a0_nodes a0_factors a0_powers a0_product a1_near a1_tail a1_head r0_near v0_versionSeen_1 w0_nodes_2 w0_factors_3 w0_powers_4 w0_product_5 v1_nodes v1_arcCount v1_version w1_near w0_near_6) := hD.part [0, 1, 2, 3, 4, 5, 6, 7] (by decide) rfl
  clear hP1 hK1 hD1 hk1 hPc hDc hFc ht hvm hz1
  generalize H1 = H at hP hS ⊢
  refine lv_iload_n hx hb d_Pol_atPower_5 rfl (lv_at hl 2 rfl) ?_
  refine lv_if_lt (tgt := 26) hx hb d_Pol_atPower_6 (by decide) (fun c_9 => ?_) (fun c_9 => ?_)
  · have hm := ite_t c_9 hm
    refine lv_lconst (v := 0) hx hb d_Pol_atPower_26 (by decide) ?_
    cases hm
    exact W.lret hx hb hr (fun t ht hW => ⟨⟨_, (), rfl, rfl, by rw [ht]; exact hP, va_K.moved hW.alike hK, hD⟩, hS.F ht⟩) hS.2.2 d_Pol_atPower_27
  · have hm := ite_f c_9 hm
    refine lv_iload_n hx hb d_Pol_atPower_9 rfl (lv_at hl 2 rfl) ?_
    refine lv_aload_n hx hb d_Pol_atPower_10 rfl (lv_at hl 1 rfl) ?_
    refine va_get (D := (dC, dI)) (ci := 1) (v := .int v1_nodes) (C := R_Net) (T := T_Net) (N := 6) hx hb htt hin_Net hown hK hP 6 rfl rfl 3 (by decide) (htt _ kt_49) (fun _ h9 => h9) rfl d_Pol_atPower_11 ?_
    refine lv_icmp_gt (tgt := 26) hx hb d_Pol_atPower_14 (by decide) (fun c_10 => ?_) (fun c_10 => ?_)
    · have hm := ite_t c_10 hm
      refine lv_lconst (v := 0) hx hb d_Pol_atPower_26 (by decide) ?_
      cases hm
      exact W.lret hx hb hr (fun t ht hW => ⟨⟨_, (), rfl, rfl, by rw [ht]; exact hP, va_K.moved hW.alike hK, hD⟩, hS.F ht⟩) hS.2.2 d_Pol_atPower_27
    · have hm := ite_f c_10 hm
      refine lv_aload_n hx hb d_Pol_atPower_17 rfl (lv_at hl 0 rfl) ?_
      refine va_get (D := (dC, dI)) (ci := 3) (v := .ref a0_powers) (C := R_Pol) (T := T_Pol) (N := 6) hx hb htt hin_Pol hown hK hP 0 rfl rfl 3 (by decide) (htt _ kt_123) (fun _ h9 => h9) rfl d_Pol_atPower_18 ?_
      refine lv_iload_n hx hb d_Pol_atPower_21 rfl (lv_at hl 2 rfl) ?_
      obtain ⟨hi_11, hm⟩ := gC_e hm
      refine va_lald hx hb hK hP 4 1 rfl rfl (inb_vp hi_11) d_Pol_atPower_22 ?_
      refine lv_goto (tgt := 27) hx hb d_Pol_atPower_23 (by decide) ?_
      cases hm
      exact W.lret hx hb hr (fun t ht hW => ⟨⟨_, (), rfl, rfl, by rw [ht]; exact hP, va_K.moved hW.alike hK, hD⟩, hS.F ht⟩) hS.2.2 d_Pol_atPower_27
