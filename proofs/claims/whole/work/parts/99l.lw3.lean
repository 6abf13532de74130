def lw_P (b : Addr) (xs : List Int32) (args : Array Value) (s : State) : Prop := args = #[.ref b] ∧ s.IntsAt b xs ∧ xs.length ≤ 1536 ∧ (Jvm.Cond.and given_1 narrow_1).before args s = true
def lw_Q (_ : Array Value) (s : State) (o : Outcome) (t : State) : Prop := o = .returned (some (.int 1)) ∧ Framed s o t [] 601024 7293033
def lw_Z (below : List Frame) (a : Array Value) (s : State) : State → Prop := fun t => ∃ o, t.status = .running ∧ Ended t below o ∧ lw_Q a s o t
/-- the law's own end, with 1 on the stack, nothing written that was there before, its room as the claim has it -/
theorem lw_ret {p : Program} {l : Launch} {e : Env} {s : State} {m : MethodId} {below : List Frame} {meth : Method} {c : Code} {b : Nat} (hx : p.tables.exec = Jvm.exec) (hb : c.code = code) (hr : meth.sig.returnType = ret) (hlocks : meth.locks = false) {pc : Nat} {H : Heap} {ls : Array Slot} (hdg : decode code pc = .ok (.ireturn, 1)) : W p l e room_1 s m #[Value.ref b] below meth c H [] 601024 7293033 (lw_Z below #[Value.ref b] s) (F0 m pc ls [.int 1]) := by
  intro T hT X
  obtain ⟨fs, hret, hrun, hended, hW, hframe⟩ := X.leave (v := some (.int 1)) (hlocks := hlocks) (fun h => by rw [hr] at h; cases h)
  have hmeth' : T.vm.method? m = some meth := X.method'
  refine ⟨T.setFrames fs, ?_, .returned (some (.int 1)), hrun, hended, rfl, ⟨_, rfl⟩, hW, hframe⟩
  jvm_step X.here [X.here.top, hx, hb, hdg, hmeth', hr, ret, narrow_b1]
  (try refine ⟨rfl, ?_⟩); (try refine ⟨rfl, ?_⟩)
  first | (intro acts; rw [hret _ acts rfl rfl rfl]) | rw [hret _ _ rfl rfl rfl]
  exact Steps.refl _
/-- what holds at the law's entry: the machine, the code, the tables' words (any of lw_tbl by 'hts w (by decide +kernel)'), the script of L ints xs at the cell b, what the Statement gives of the start (any of its parts by flat_of_before) -/
def lw_At (p : Program) (s : State) (m : MethodId) (meth : Method) (c : Code) (b L : Nat) (xs : Nat → Int32) : Prop :=
  p.tables.exec = Jvm.exec ∧ c.code = code ∧ meth.sig.returnType = ret ∧ c.maxLocals = 7 ∧ s.vm.findClass R_law = some m.cls ∧ (∀ w ∈ lw_tbl, w.before #[Value.ref b] s = true) ∧ va_X b L xs s s.heap ∧ b < s.heap.size ∧ meth.locks = false ∧ (Jvm.Cond.and given_1 narrow_1).before #[Value.ref b] s = true
theorem INV_j {cI cJ cG cZ : ClassId} {a0 b0 j L : Nat} {wx wm : va_W} (h : INV cI cJ cG cZ a0 b0 j L wx wm) : INV cI cJ cG cZ a0 b0 (j + 1) L wx wm := by
  obtain ⟨ax, ay, q0, q1, n, ka, V, c, iv, av, jv, fr, M, rfl, rfl, h⟩ := h
  exact ⟨ax, ay, q0, q1, n, ka, V, c, iv, av, jv, fr, M, rfl, rfl, REL_j h⟩
theorem le_law {j Ls : Nat} (hj : 3 * j ≤ Ls) (hL : Ls ≤ 1536) (h : ¬ (Int32.ofNat Ls - 3 < nI (3 * j))) : 3 * j + 3 ≤ Ls := by
  rw [Int32.lt_iff_toInt_lt, nI_toInt (by omega), Int32.toInt_sub, show (Int32.ofNat Ls).toInt = (Ls : Int) from nI_toInt (by omega), show (3 : Int32).toInt = 3 from rfl] at h
  rw [Int.bmod_eq_of_le (by omega) (by omega)] at h
  omega
set_option maxRecDepth 100000 in
set_option maxHeartbeats 4000000 in
theorem lw_head {p : Program} {l : Launch} {e : Env} {s : State} {m : MethodId} {below : List Frame} {meth : Method} {c : Code} {b Ls : Nat} {xs : Nat → Int32} {dC : Nat → ClassId} {dI : Nat → Nat → Nat} {cI cJ cG cZ : ClassId} {a0 b0 ao : Nat} {Q : State → Prop} (hlt : l.stackTraces = false) {j L : Nat} {g : Nat → Int64} {wx wm : va_W} {ls : Array Slot} {H : Heap} {locs : List Loc} (K : LK p s m c b Ls xs dC dI cI cJ cG cZ) (hj : 3 * j ≤ Ls) (hL : L ≤ 4096) (hI : INV cI cJ cG cZ a0 b0 j L wx wm) (hl : lv_has ls 7 [(4, .int (nI (3 * j))), (3, .ref ao), (2, .ref b0), (1, .ref a0), (0, .ref b)]) (hH : LH s dC dI (wLaw cJ ao g wx wm) H locs) (bk : 3 * j + 3 ≤ Ls → BK p l e s m below meth c b dC dI cI cJ cG cZ a0 b0 ao Q j) (ex : W p l e room_1 s m #[Value.ref b] below meth c H locs (200 + 6 * j) (80000 + 6 * j + 10 * L) Q (F0 m 797 ls [])) : W p l e room_1 s m #[Value.ref b] below meth c H locs (200 + 6 * j) (80000 + 6 * j + 10 * L) Q (F0 m 23 ls []) := by
  have hx := K.1
  have hb := K.2.1
  have hX := K.2.2.2.2.2.1
  have hbl := K.2.2.2.2.2.2.1
  have hLs := K.2.2.2.2.2.2.2.2.2.2
  have hbA : ¬ lA s b := Nat.not_le.mpr hbl
  refine lv_iload hx hb d_law_23 (lv_at hl 0 rfl) ?_
  refine lv_aload_n hx hb d_law_25 rfl (lv_at hl 4 rfl) ?_
  refine va_slen hx hb hX hbl hbA hH.2.2 d_law_26 ?_
  refine lv_iconst (v := 3) hx hb d_law_27 (by decide) ?_
  refine lv_isub hx hb d_law_28 ?_
  refine lv_icmp_gt (tgt := 797) hx hb d_law_29 (by decide) (fun _ => ex) (fun h => ?_)
  have h3 := le_law hj hLs h
  have bk := bk h3
  have hj1 : j ≤ 1000 := by omega
  refine lv_aload_n hx hb d_law_32 rfl (lv_at hl 4 rfl) ?_
  refine lv_iload hx hb d_law_33 (lv_at hl 0 rfl) ?_
  refine va_sld hx hb hX hbl hbA hH.2.2 (in_0 h3 hLs) d_law_35 ?_
  refine lv_bipush (v := 31) hx hb d_law_36 (by decide) ?_
  refine lv_iand hx hb d_law_38 ?_
  generalize xs (nI (3 * j)).toNatClampNeg &&& 31 = x
  by_cases c0 : x = 0
  · exact lv_tableIn (tgt := 160) hx hb d_law_39 (by rw [c0]; decide) (by rw [c0]; decide) (by rw [c0]; rfl) (by decide) (lw_k0 K hj1 h3 hL hI hl hH bk)
  by_cases c1 : x = 1
  · exact lv_tableIn (tgt := 173) hx hb d_law_39 (by rw [c1]; decide) (by rw [c1]; decide) (by rw [c1]; rfl) (by decide) (lw_k1 K hj1 h3 hL hI hl hH bk)
  by_cases c2 : x = 2
  · exact lv_tableIn (tgt := 210) hx hb d_law_39 (by rw [c2]; decide) (by rw [c2]; decide) (by rw [c2]; rfl) (by decide) (lw_k2 K hj1 h3 hL hI hl hH bk)
  by_cases c3 : x = 3
  · exact lv_tableIn (tgt := 223) hx hb d_law_39 (by rw [c3]; decide) (by rw [c3]; decide) (by rw [c3]; rfl) (by decide) (lw_k3 K hj1 h3 hL hI hl hH bk)
  by_cases c4 : x = 4
  · exact lv_tableIn (tgt := 236) hx hb d_law_39 (by rw [c4]; decide) (by rw [c4]; decide) (by rw [c4]; rfl) (by decide) (lw_k4 K hj1 h3 hL hI hl hH bk)
  by_cases c5 : x = 5
  · exact lv_tableIn (tgt := 261) hx hb d_law_39 (by rw [c5]; decide) (by rw [c5]; decide) (by rw [c5]; rfl) (by decide) (lw_k5 K hj1 h3 hL hI hl hH bk)
  by_cases c6 : x = 6
  · exact lv_tableIn (tgt := 286) hx hb d_law_39 (by rw [c6]; decide) (by rw [c6]; decide) (by rw [c6]; rfl) (by decide) (lw_k6 K hj1 h3 hL hI hl hH bk)
  by_cases c7 : x = 7
  · exact lv_tableIn (tgt := 344) hx hb d_law_39 (by rw [c7]; decide) (by rw [c7]; decide) (by rw [c7]; rfl) (by decide) (lw_k7 K hj1 h3 hL hI hl hH bk)
  by_cases c8 : x = 8
  · exact lv_tableIn (tgt := 370) hx hb d_law_39 (by rw [c8]; decide) (by rw [c8]; decide) (by rw [c8]; rfl) (by decide) (lw_k8 K hj1 h3 hL hI hl hH bk)
  by_cases c9 : x = 9
  · exact lv_tableIn (tgt := 407) hx hb d_law_39 (by rw [c9]; decide) (by rw [c9]; decide) (by rw [c9]; rfl) (by decide) (lw_k9 K hj1 h3 hL hI hl hH bk)
  by_cases c10 : x = 10
  · exact lv_tableIn (tgt := 420) hx hb d_law_39 (by rw [c10]; decide) (by rw [c10]; decide) (by rw [c10]; rfl) (by decide) (lw_k10 K hj1 h3 hL hI hl hH bk)
  by_cases c11 : x = 11
  · exact lv_tableIn (tgt := 434) hx hb d_law_39 (by rw [c11]; decide) (by rw [c11]; decide) (by rw [c11]; rfl) (by decide) (lw_k11 K hj1 h3 hL hI hl hH bk)
  by_cases c12 : x = 12
  · exact lv_tableIn (tgt := 447) hx hb d_law_39 (by rw [c12]; decide) (by rw [c12]; decide) (by rw [c12]; rfl) (by decide) (lw_k12 hlt K hj1 h3 hL hI hl hH bk)
  by_cases c13 : x = 13
  · exact lv_tableIn (tgt := 491) hx hb d_law_39 (by rw [c13]; decide) (by rw [c13]; decide) (by rw [c13]; rfl) (by decide) (lw_k13 K hj1 h3 hL hI hl hH bk)
  by_cases c14 : x = 14
  · exact lv_tableIn (tgt := 516) hx hb d_law_39 (by rw [c14]; decide) (by rw [c14]; decide) (by rw [c14]; rfl) (by decide) (lw_k14 K hj1 h3 hL hI hl hH bk)
  by_cases c15 : x = 15
  · exact lv_tableIn (tgt := 529) hx hb d_law_39 (by rw [c15]; decide) (by rw [c15]; decide) (by rw [c15]; rfl) (by decide) (lw_k15 K hj1 h3 hL hI hl hH bk)
  by_cases c16 : x = 16
  · exact lv_tableIn (tgt := 542) hx hb d_law_39 (by rw [c16]; decide) (by rw [c16]; decide) (by rw [c16]; rfl) (by decide) (lw_k16 K hj1 h3 hL hI hl hH bk)
  by_cases c17 : x = 17
  · exact lv_tableIn (tgt := 555) hx hb d_law_39 (by rw [c17]; decide) (by rw [c17]; decide) (by rw [c17]; rfl) (by decide) (lw_k17 K hj1 h3 hL hI hl hH bk)
  by_cases c18 : x = 18
  · exact lv_tableIn (tgt := 580) hx hb d_law_39 (by rw [c18]; decide) (by rw [c18]; decide) (by rw [c18]; rfl) (by decide) (lw_k18 K hj1 h3 hL hI hl hH bk)
  by_cases c19 : x = 19
  · exact lv_tableIn (tgt := 593) hx hb d_law_39 (by rw [c19]; decide) (by rw [c19]; decide) (by rw [c19]; rfl) (by decide) (lw_k19 K hj1 h3 hL hI hl hH bk)
  by_cases c20 : x = 20
  · exact lv_tableIn (tgt := 618) hx hb d_law_39 (by rw [c20]; decide) (by rw [c20]; decide) (by rw [c20]; rfl) (by decide) (lw_k20 K hj1 h3 hL hI hl hH bk)
  by_cases c21 : x = 21
  · exact lv_tableIn (tgt := 643) hx hb d_law_39 (by rw [c21]; decide) (by rw [c21]; decide) (by rw [c21]; rfl) (by decide) (lw_k21 K hj1 h3 hL hI hl hH bk)
  by_cases c22 : x = 22
  · exact lv_tableIn (tgt := 680) hx hb d_law_39 (by rw [c22]; decide) (by rw [c22]; decide) (by rw [c22]; rfl) (by decide) (lw_k22 K hj1 h3 hL hI hl hH bk)
  by_cases c23 : x = 23
  · exact lv_tableIn (tgt := 705) hx hb d_law_39 (by rw [c23]; decide) (by rw [c23]; decide) (by rw [c23]; rfl) (by decide) (lw_k23 K hj1 h3 hL hI hl hH bk)
  by_cases c24 : x = 24
  · exact lv_tableIn (tgt := 718) hx hb d_law_39 (by rw [c24]; decide) (by rw [c24]; decide) (by rw [c24]; rfl) (by decide) (lw_k24 K hj1 h3 hL hI hl hH bk)
  by_cases c25 : x = 25
  · exact lv_tableIn (tgt := 755) hx hb d_law_39 (by rw [c25]; decide) (by rw [c25]; decide) (by rw [c25]; rfl) (by decide) (lw_k25 K hj1 h3 hL hI hl hH bk)
  by_cases c26 : x = 26
  · exact lv_tableIn (tgt := 780) hx hb d_law_39 (by rw [c26]; decide) (by rw [c26]; decide) (by rw [c26]; rfl) (by decide) (lw_k26 K hj1 h3 hL hI hl hH bk)
  have hne : x.toInt < 0 ∨ 26 < x.toInt := by
    have n0 := lv_neT (a := 0) c0 rfl
    have n1 := lv_neT (a := 1) c1 rfl
    have n2 := lv_neT (a := 2) c2 rfl
    have n3 := lv_neT (a := 3) c3 rfl
    have n4 := lv_neT (a := 4) c4 rfl
    have n5 := lv_neT (a := 5) c5 rfl
    have n6 := lv_neT (a := 6) c6 rfl
    have n7 := lv_neT (a := 7) c7 rfl
    have n8 := lv_neT (a := 8) c8 rfl
    have n9 := lv_neT (a := 9) c9 rfl
    have n10 := lv_neT (a := 10) c10 rfl
    have n11 := lv_neT (a := 11) c11 rfl
    have n12 := lv_neT (a := 12) c12 rfl
    have n13 := lv_neT (a := 13) c13 rfl
    have n14 := lv_neT (a := 14) c14 rfl
    have n15 := lv_neT (a := 15) c15 rfl
    have n16 := lv_neT (a := 16) c16 rfl
    have n17 := lv_neT (a := 17) c17 rfl
    have n18 := lv_neT (a := 18) c18 rfl
    have n19 := lv_neT (a := 19) c19 rfl
    have n20 := lv_neT (a := 20) c20 rfl
    have n21 := lv_neT (a := 21) c21 rfl
    have n22 := lv_neT (a := 22) c22 rfl
    have n23 := lv_neT (a := 23) c23 rfl
    have n24 := lv_neT (a := 24) c24 rfl
    have n25 := lv_neT (a := 25) c25 rfl
    have n26 := lv_neT (a := 26) c26 rfl
    omega
  refine lv_tableOut (tgt := 791) hx hb d_law_39 hne (by decide) ?_
  refine W.widen (k := 200 + 6 * (j + 1)) (n := 80000 + 6 * (j + 1) + 10 * L) (by omega) (by omega) ?_
  exact bk L g wx wm ls H locs hL (INV_j hI) hl hH
theorem lw_loop {p : Program} {l : Launch} {e : Env} {s : State} {m : MethodId} {below : List Frame} {meth : Method} {c : Code} {b Ls : Nat} {xs : Nat → Int32} {dC : Nat → ClassId} {dI : Nat → Nat → Nat} {cI cJ cG cZ : ClassId} {a0 b0 ao : Nat} (hlt : l.stackTraces = false) (K : LK p s m c b Ls xs dC dI cI cJ cG cZ) (hr : meth.sig.returnType = ret) (hlocks : meth.locks = false) : ∀ (n j L : Nat) (g : Nat → Int64) (wx wm : va_W) (ls : Array Slot) (H : Heap) (locs : List Loc), Ls < 3 * j + 3 * n → 3 * j ≤ Ls → L ≤ 4096 → INV cI cJ cG cZ a0 b0 j L wx wm → lv_has ls 7 [(4, .int (nI (3 * j))), (3, .ref ao), (2, .ref b0), (1, .ref a0), (0, .ref b)] → LH s dC dI (wLaw cJ ao g wx wm) H locs → W p l e room_1 s m #[Value.ref b] below meth c H locs (200 + 6 * j) (80000 + 6 * j + 10 * L) (lw_Z below #[Value.ref b] s) (F0 m 23 ls []) := by
  have hx := K.1
  have hb := K.2.1
  have hLs := K.2.2.2.2.2.2.2.2.2.2
  have ex : ∀ (j L : Nat) (ls : Array Slot) (H : Heap) (locs : List Loc), 3 * j ≤ Ls → L ≤ 4096 → va_S (lA s) s.heap H locs → W p l e room_1 s m #[Value.ref b] below meth c H locs (200 + 6 * j) (80000 + 6 * j + 10 * L) (lw_Z below #[Value.ref b] s) (F0 m 797 ls []) := by
    intro j L ls H locs h3 hL hS
    refine lv_iconst (v := 1) hx hb d_law_797 (by decide) ?_
    refine va_forget hS.2.2 ?_
    refine W.widen (k := 601024) (n := 7293033) (by omega) (by omega) ?_
    exact lw_ret hx hb hr hlocks d_law_798
  intro n
  induction n with
  | zero =>
    intro j L g wx wm ls H locs h0 h3 hL hI hl hH
    exact lw_head hlt K h3 hL hI hl hH (fun h => absurd h (by omega)) (ex j L ls H locs h3 hL hH.2.2)
  | succ n ih =>
    intro j L g wx wm ls H locs h0 h3 hL hI hl hH
    refine lw_head hlt K h3 hL hI hl hH (fun h => ?_) (ex j L ls H locs h3 hL hH.2.2)
    intro L2 g2 wx2 wm2 ls2 H2 locs2 hL2 hI2 hl2 hH2
    refine lv_iinc (v := nI (3 * (j + 1))) (lv' := [(4, .int (nI (3 * (j + 1)))), (3, .ref ao), (2, .ref b0), (1, .ref a0), (0, .ref b)]) hx hb d_law_791 hl2 (k := 0) rfl (by rw [show 3 * (j + 1) = 3 * j + 3 from by omega]; exact nI_add (3 * j) 3) (by decide) rfl (fun ls hl => ?_)
    refine lv_goto (tgt := 23) hx hb d_law_794 (by decide) ?_
    exact ih (j + 1) L2 g2 wx2 wm2 ls H2 locs2 (by omega) (by omega) hL2 hI2 hl hH2
