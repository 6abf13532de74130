theorem d_LC_makeRoom_0 : decode prog_3_method_3_code 0 = .ok (.aload_n 0, 1) := by decide +kernel
theorem d_LC_makeRoom_1 : decode prog_3_method_3_code 1 = .ok (.getfield 18, 3) := by decide +kernel
theorem d_LC_makeRoom_4 : decode prog_3_method_3_code 4 = .ok (.arraylength, 1) := by decide +kernel
theorem d_LC_makeRoom_5 : decode prog_3_method_3_code 5 = .ok (.iload_n 1, 1) := by decide +kernel
theorem d_LC_makeRoom_6 : decode prog_3_method_3_code 6 = .ok (.if_icmp .ge 47, 3) := by decide +kernel
theorem d_LC_makeRoom_9 : decode prog_3_method_3_code 9 = .ok (.iload_n 1, 1) := by decide +kernel
theorem d_LC_makeRoom_10 : decode prog_3_method_3_code 10 = .ok (.ifCond .le 43, 3) := by decide +kernel
theorem d_LC_makeRoom_13 : decode prog_3_method_3_code 13 = .ok (.aload_n 0, 1) := by decide +kernel
theorem d_LC_makeRoom_14 : decode prog_3_method_3_code 14 = .ok (.iload_n 1, 1) := by decide +kernel
theorem d_LC_makeRoom_15 : decode prog_3_method_3_code 15 = .ok (.newarray .int, 2) := by decide +kernel
theorem d_LC_makeRoom_17 : decode prog_3_method_3_code 17 = .ok (.putfield 15, 3) := by decide +kernel
theorem d_LC_makeRoom_20 : decode prog_3_method_3_code 20 = .ok (.aload_n 0, 1) := by decide +kernel
theorem d_LC_makeRoom_21 : decode prog_3_method_3_code 21 = .ok (.iload_n 1, 1) := by decide +kernel
theorem d_LC_makeRoom_22 : decode prog_3_method_3_code 22 = .ok (.newarray .int, 2) := by decide +kernel
theorem d_LC_makeRoom_24 : decode prog_3_method_3_code 24 = .ok (.putfield 18, 3) := by decide +kernel
theorem d_LC_makeRoom_27 : decode prog_3_method_3_code 27 = .ok (.aload_n 0, 1) := by decide +kernel
theorem d_LC_makeRoom_28 : decode prog_3_method_3_code 28 = .ok (.iload_n 1, 1) := by decide +kernel
theorem d_LC_makeRoom_29 : decode prog_3_method_3_code 29 = .ok (.newarray .int, 2) := by decide +kernel
theorem d_LC_makeRoom_31 : decode prog_3_method_3_code 31 = .ok (.putfield 21, 3) := by decide +kernel
theorem d_LC_makeRoom_34 : decode prog_3_method_3_code 34 = .ok (.aload_n 0, 1) := by decide +kernel
theorem d_LC_makeRoom_35 : decode prog_3_method_3_code 35 = .ok (.iload_n 1, 1) := by decide +kernel
theorem d_LC_makeRoom_36 : decode prog_3_method_3_code 36 = .ok (.newarray .int, 2) := by decide +kernel
theorem d_LC_makeRoom_38 : decode prog_3_method_3_code 38 = .ok (.putfield 24, 3) := by decide +kernel
theorem d_LC_makeRoom_41 : decode prog_3_method_3_code 41 = .ok (.aload_n 0, 1) := by decide +kernel
theorem d_LC_makeRoom_42 : decode prog_3_method_3_code 42 = .ok (.iload_n 1, 1) := by decide +kernel
theorem d_LC_makeRoom_43 : decode prog_3_method_3_code 43 = .ok (.newarray .long, 2) := by decide +kernel
theorem d_LC_makeRoom_45 : decode prog_3_method_3_code 45 = .ok (.putfield 27, 3) := by decide +kernel
theorem d_LC_makeRoom_48 : decode prog_3_method_3_code 48 = .ok (.aload_n 0, 1) := by decide +kernel
theorem d_LC_makeRoom_49 : decode prog_3_method_3_code 49 = .ok (.iconst (-1), 1) := by decide +kernel
theorem d_LC_makeRoom_50 : decode prog_3_method_3_code 50 = .ok (.putfield 31, 3) := by decide +kernel
theorem d_LC_makeRoom_53 : decode prog_3_method_3_code 53 = .ok (.return_, 1) := by decide +kernel
abbrev wd_LC_makeRoom (cI cJ cG cZ : ClassId) (a0 a0_open a0_clash a0_weight a0_common a0_gain a0_sum : Nat) (v0_rest : Int32) (v0_versionSeen : Int32) (v0_restSeen : Int32) (n0_clash : Nat) (w0_clash : Nat → Int32) (n0_weight : Nat) (w0_weight : Nat → Int32) (n0_common : Nat) (w0_common : Nat → Int32) (n0_gain : Nat) (w0_gain : Nat → Int32) (n0_sum : Nat) (w0_sum : Nat → Int64) : va_W := [(a0, .inr (4, [.ref a0_open, .ref a0_clash, .ref a0_weight, .ref a0_common, .ref a0_gain, .ref a0_sum, .int v0_rest, .int v0_versionSeen, .int v0_restSeen])), (a0_clash, .inl (cI, n0_clash, .inl w0_clash)), (a0_weight, .inl (cI, n0_weight, .inl w0_weight)), (a0_common, .inl (cI, n0_common, .inl w0_common)), (a0_gain, .inl (cI, n0_gain, .inl w0_gain)), (a0_sum, .inl (cJ, n0_sum, .inr (.inl w0_sum)))]
abbrev us_LC_makeRoom : List Cond := .code y_LC_makeRoom prog_3_method_3_code 2 none :: gtbl
abbrev rm_LC_makeRoom (mc ms : Nat) : Room := { frames := 0, cells := mc, slots := ms, locals := 0 }
def m_LC_makeRoom (F : Nat) (v0_rest : Int32) (v0_versionSeen : Int32) (v0_restSeen : Int32) (n0_clash : Nat) (w0_clash : Nat → Int32) (n0_weight : Nat) (w0_weight : Nat → Int32) (n0_common : Nat) (w0_common : Nat → Int32) (n0_gain : Nat) (w0_gain : Nat → Int32) (n0_sum : Nat) (w0_sum : Nat → Int64) (p1 : Int32) : Option (Int32 × Nat × (Nat → Int32) × Nat × (Nat → Int32) × Nat × (Nat → Int32) × Nat × (Nat → Int32) × Nat × (Nat → Int64)) :=
  if p1 ≤ nI n0_weight then some (v0_versionSeen, n0_clash, w0_clash, n0_weight, w0_weight, n0_common, w0_common, n0_gain, w0_gain, n0_sum, w0_sum) else if p1 ≤ 0 then some (v0_versionSeen, n0_clash, w0_clash, n0_weight, w0_weight, n0_common, w0_common, n0_gain, w0_gain, n0_sum, w0_sum) else gC (decide (p1.toNatClampNeg ≤ 4096)) (some ((-1), p1.toNatClampNeg, (fun _ => 0), p1.toNatClampNeg, (fun _ => 0), p1.toNatClampNeg, (fun _ => 0), p1.toNatClampNeg, (fun _ => 0), p1.toNatClampNeg, (fun _ => 0)))
set_option maxHeartbeats 4000000 in
set_option maxRecDepth 100000 in
theorem c_LC_makeRoom (l : Launch) (dC : Nat → ClassId) (dI : Nat → Nat → Nat) (cI cJ cG cZ : ClassId) (a0 a0_open a0_clash a0_weight a0_common a0_gain a0_sum : Nat) (sz : Nat) (F : Nat) (v0_rest : Int32) (v0_versionSeen : Int32) (v0_restSeen : Int32) (n0_clash : Nat) (w0_clash : Nat → Int32) (n0_weight : Nat) (w0_weight : Nat → Int32) (n0_common : Nat) (w0_common : Nat → Int32) (n0_gain : Nat) (w0_gain : Nat → Int32) (n0_sum : Nat) (w0_sum : Nat → Int64) (p1 : Int32) (o_v0_versionSeen : Int32) (o_n0_clash : Nat) (o_w0_clash : Nat → Int32) (o_n0_weight : Nat) (o_w0_weight : Nat → Int32) (o_n0_common : Nat) (o_w0_common : Nat → Int32) (o_n0_gain : Nat) (o_w0_gain : Nat → Int32) (o_n0_sum : Nat) (o_w0_sum : Nat → Int64) (hm : m_LC_makeRoom F v0_rest v0_versionSeen v0_restSeen n0_clash w0_clash n0_weight w0_weight n0_common w0_common n0_gain w0_gain n0_sum w0_sum p1 = some (o_v0_versionSeen, o_n0_clash, o_w0_clash, o_n0_weight, o_w0_weight, o_n0_common, o_w0_common, o_n0_gain, o_w0_gain, o_n0_sum, o_w0_sum)) (mc ms : Nat) (hg : ¬ p1 ≤ nI n0_weight → ¬ p1 ≤ 0 → 5 ≤ mc ∧ 5 * p1.toNatClampNeg ≤ ms) : Met l y_LC_makeRoom us_LC_makeRoom (rm_LC_makeRoom mc ms) (PcS (dC, dI) (tyL cI cJ cG cZ) [.ref a0, .int p1] sz (wd_LC_makeRoom cI cJ cG cZ a0 a0_open a0_clash a0_weight a0_common a0_gain a0_sum v0_rest v0_versionSeen v0_restSeen n0_clash w0_clash n0_weight w0_weight n0_common w0_common n0_gain w0_gain n0_sum w0_sum)) (va_Qv (fun (_ : Nat × Nat × Nat × Nat × Nat) => True) (fun u t => PoS (dC, dI) (tyL cI cJ cG cZ) (wd_LC_makeRoom cI cJ cG cZ a0 a0_open u.1 u.2.1 u.2.2.1 u.2.2.2.1 u.2.2.2.2 v0_rest o_v0_versionSeen v0_restSeen o_n0_clash o_w0_clash o_n0_weight o_w0_weight o_n0_common o_w0_common o_n0_gain o_w0_gain o_n0_sum o_w0_sum) (va_A (wd_LC_makeRoom cI cJ cG cZ a0 a0_open a0_clash a0_weight a0_common a0_gain a0_sum v0_rest v0_versionSeen v0_restSeen n0_clash w0_clash n0_weight w0_weight n0_common w0_common n0_gain w0_gain n0_sum w0_sum) sz) t) (va_A (wd_LC_makeRoom cI cJ cG cZ a0 a0_open a0_clash a0_weight a0_common a0_gain a0_sum v0_rest v0_versionSeen v0_restSeen n0_clash w0_clash n0_weight w0_weight n0_common w0_common n0_gain w0_gain n0_sum w0_sum) sz)) mc ms (va_A (wd_LC_makeRoom cI cJ cG cZ a0 a0_open a0_clash a0_weight a0_common a0_gain a0_sum v0_rest v0_versionSeen v0_restSeen n0_clash w0_clash n0_weight w0_weight n0_common w0_common n0_gain w0_gain n0_sum w0_sum) sz) := by
  refine Met.ofW (cc := prog_3_method_3_code) (maxL := 2) (ret := none) (by decide) rfl ?_
  intro p e s m args below meth c s₁ B hml hv
  obtain ⟨rfl, hsz, hP, hK, hD0, hNw⟩ := hv
  have hx := B.exec
  have hb := B.bytes
  have hr := B.returns
  have htt : ∀ w ∈ gtbl, w.before _ s = true := fun w h => atoms_spec (ws := us_LC_makeRoom) B.pre w (List.mem_cons_of_mem _ h)
  have hown : s.vm.findClass R_LC = some m.cls := findClass_of_methodNamed B.named
  have hlocks := B.notSynchronized
  subst hsz
  have hD := hD0.self (sz := s.heap.size)
  generalize hAe : va_A (wd_LC_makeRoom cI cJ cG cZ a0 a0_open a0_clash a0_weight a0_common a0_gain a0_sum v0_rest v0_versionSeen v0_restSeen n0_clash w0_clash n0_weight w0_weight n0_common w0_common n0_gain w0_gain n0_sum w0_sum) s.heap.size = A at hD ⊢
  have hA : ∀ q : Nat, s.heap.size ≤ q → A q := fun q h => by rw [← hAe]; exact Or.inr h
  clear hAe hD0
  have hS : va_S A s.heap s.heap [] := va_S.rf
  have hl := lv_entry ([.ref a0, .int p1]) (n := 2) (Nat.le_of_ble_eq_true rfl)
  rw [lg_entry_eq]
  generalize (lg_sl ([.ref a0, .int p1]) ++ List.replicate (2 - (lg_sl ([.ref a0, .int p1])).length) Slot.unset).toArray = ls at hl ⊢
  have hl : lv_has ls 2 [(0, .ref a0), (1, .int p1)] := hl
  generalize hH : s.heap = H at hP ⊢
  have hS : va_S A s.heap H [] := hH ▸ hS
  generalize hLo : ([] : List Loc) = locs at hS ⊢
  clear hH hLo
  unfold m_LC_makeRoom at hm
  refine lv_aload_n hx hb d_LC_makeRoom_0 rfl (lv_at hl 0 rfl) ?_
  refine va_get (D := (dC, dI)) (ci := 4) (v := .ref a0_weight) (C := R_LC) (T := T_LC) (N := 9) hx hb htt hin_LC hown hK hP 0 rfl rfl 2 (by decide) (htt _ kt_148) (fun _ h9 => h9) rfl d_LC_makeRoom_1 ?_
  refine va_alen hx hb hK hP 2 0 rfl rfl rfl d_LC_makeRoom_4 ?_
  refine lv_iload_n hx hb d_LC_makeRoom_5 rfl (lv_at hl 1 rfl) ?_
  refine lv_icmp_ge (tgt := 53) hx hb d_LC_makeRoom_6 (by decide) (fun c_1 => ?_) (fun c_1 => ?_)
  · have hm := ite_t c_1 hm
    cases hm
    refine W.widen (k := mc) (n := ms) (Nat.zero_le _) (Nat.zero_le _) ?_
    exact W.vret hx hb hr (fun t ht hW => ⟨⟨(a0_clash, a0_weight, a0_common, a0_gain, a0_sum), rfl, trivial, by rw [ht]; exact hP, va_K.moved hW.alike hK, hD⟩, hS.F ht⟩) hS.2.2 d_LC_makeRoom_53
  have hm := ite_f c_1 hm
  refine lv_iload_n hx hb d_LC_makeRoom_9 rfl (lv_at hl 1 rfl) ?_
  refine lv_if_le (tgt := 53) hx hb d_LC_makeRoom_10 (by decide) (fun c_2 => ?_) (fun c_2 => ?_)
  · have hm := ite_t c_2 hm
    cases hm
    refine W.widen (k := mc) (n := ms) (Nat.zero_le _) (Nat.zero_le _) ?_
    exact W.vret hx hb hr (fun t ht hW => ⟨⟨(a0_clash, a0_weight, a0_common, a0_gain, a0_sum), rfl, trivial, by rw [ht]; exact hP, va_K.moved hW.alike hK, hD⟩, hS.F ht⟩) hS.2.2 d_LC_makeRoom_53
  have hm := ite_f c_2 hm
  obtain ⟨h4, hm⟩ := gC_e hm
  have h4 := of_decide_eq_true h4
  obtain ⟨hg1, hg2⟩ := hg c_1 c_2
  have hn0 : ¬ p1 < 0 := fun h => c_2 (Int32.le_of_lt h)
  cases hm
  generalize hN : p1.toNatClampNeg = N at h4 hg2 ⊢
  refine lv_aload_n hx hb d_LC_makeRoom_13 rfl (lv_at hl 0 rfl) ?_
  refine lv_iload_n hx hb d_LC_makeRoom_14 rfl (lv_at hl 1 rfl) ?_
  refine gx_newI hx hb (htt _ kt_arrI) hK hP hD hS hA (n := p1) (N' := N) hn0 hN (by show N * 4 ≤ 536870912; omega) (by show 0 + 1 ≤ mc; omega) (by show 0 + N ≤ ms; omega) d_LC_makeRoom_15 (fun q_clash H hP hD hS => ?_)
  have hP : va_P (dC, dI) vwCl ([(a0, .inr (4, [.ref a0_open, .ref a0_clash, .ref a0_weight, .ref a0_common, .ref a0_gain, .ref a0_sum, .int v0_rest, .int v0_versionSeen, .int v0_restSeen])), (a0_clash, .inl (cI, n0_clash, .inl w0_clash)), (a0_weight, .inl (cI, n0_weight, .inl w0_weight)), (a0_common, .inl (cI, n0_common, .inl w0_common)), (a0_gain, .inl (cI, n0_gain, .inl w0_gain)), (a0_sum, .inl (cJ, n0_sum, .inr (.inl w0_sum))), (q_clash, .inl (cI, N, .inl (fun _ => 0)))]) H := hP
  have hD : va_D A ([(a0, .inr (4, [.ref a0_open, .ref a0_clash, .ref a0_weight, .ref a0_common, .ref a0_gain, .ref a0_sum, .int v0_rest, .int v0_versionSeen, .int v0_restSeen])), (a0_clash, .inl (cI, n0_clash, .inl w0_clash)), (a0_weight, .inl (cI, n0_weight, .inl w0_weight)), (a0_common, .inl (cI, n0_common, .inl w0_common)), (a0_gain, .inl (cI, n0_gain, .inl w0_gain)), (a0_sum, .inl (cJ, n0_sum, .inr (.inl w0_sum))), (q_clash, .inl (cI, N, .inl (fun _ => 0)))]) := hD
  refine va_put (D := (dC, dI)) (ci := 4) (v := .ref q_clash) (ty := .array .int) (C := R_LC) (T := T_LC) (N := 9) hx hb htt hin_LC ty_LC tyok_LC nm_LC hown hK hP hD hS 0 rfl rfl 1 (by decide) (htt _ kt_147) (fun _ h9 => h9) rfl (by decide +kernel) rfl rfl (Nat.le_of_ble_eq_true rfl) d_LC_makeRoom_17 (fun H locs hP hD hS => ?_)
  have hP : va_P (dC, dI) vwCl ([(a0, .inr (4, [.ref a0_open, .ref q_clash, .ref a0_weight, .ref a0_common, .ref a0_gain, .ref a0_sum, .int v0_rest, .int v0_versionSeen, .int v0_restSeen])), (a0_clash, .inl (cI, n0_clash, .inl w0_clash)), (a0_weight, .inl (cI, n0_weight, .inl w0_weight)), (a0_common, .inl (cI, n0_common, .inl w0_common)), (a0_gain, .inl (cI, n0_gain, .inl w0_gain)), (a0_sum, .inl (cJ, n0_sum, .inr (.inl w0_sum))), (q_clash, .inl (cI, N, .inl (fun _ => 0)))]) H := hP
  have hD : va_D A ([(a0, .inr (4, [.ref a0_open, .ref q_clash, .ref a0_weight, .ref a0_common, .ref a0_gain, .ref a0_sum, .int v0_rest, .int v0_versionSeen, .int v0_restSeen])), (a0_clash, .inl (cI, n0_clash, .inl w0_clash)), (a0_weight, .inl (cI, n0_weight, .inl w0_weight)), (a0_common, .inl (cI, n0_common, .inl w0_common)), (a0_gain, .inl (cI, n0_gain, .inl w0_gain)), (a0_sum, .inl (cJ, n0_sum, .inr (.inl w0_sum))), (q_clash, .inl (cI, N, .inl (fun _ => 0)))]) := hD
  refine lv_aload_n hx hb d_LC_makeRoom_20 rfl (lv_at hl 0 rfl) ?_
  refine lv_iload_n hx hb d_LC_makeRoom_21 rfl (lv_at hl 1 rfl) ?_
  refine gx_newI hx hb (htt _ kt_arrI) hK hP hD hS hA (n := p1) (N' := N) hn0 hN (by show N * 4 ≤ 536870912; omega) (by show 0 + 1 + 1 ≤ mc; omega) (by show 0 + N + N ≤ ms; omega) d_LC_makeRoom_22 (fun q_weight H hP hD hS => ?_)
  have hP : va_P (dC, dI) vwCl ([(a0, .inr (4, [.ref a0_open, .ref q_clash, .ref a0_weight, .ref a0_common, .ref a0_gain, .ref a0_sum, .int v0_rest, .int v0_versionSeen, .int v0_restSeen])), (a0_clash, .inl (cI, n0_clash, .inl w0_clash)), (a0_weight, .inl (cI, n0_weight, .inl w0_weight)), (a0_common, .inl (cI, n0_common, .inl w0_common)), (a0_gain, .inl (cI, n0_gain, .inl w0_gain)), (a0_sum, .inl (cJ, n0_sum, .inr (.inl w0_sum))), (q_clash, .inl (cI, N, .inl (fun _ => 0))), (q_weight, .inl (cI, N, .inl (fun _ => 0)))]) H := hP
  have hD : va_D A ([(a0, .inr (4, [.ref a0_open, .ref q_clash, .ref a0_weight, .ref a0_common, .ref a0_gain, .ref a0_sum, .int v0_rest, .int v0_versionSeen, .int v0_restSeen])), (a0_clash, .inl (cI, n0_clash, .inl w0_clash)), (a0_weight, .inl (cI, n0_weight, .inl w0_weight)), (a0_common, .inl (cI, n0_common, .inl w0_common)), (a0_gain, .inl (cI, n0_gain, .inl w0_gain)), (a0_sum, .inl (cJ, n0_sum, .inr (.inl w0_sum))), (q_clash, .inl (cI, N, .inl (fun _ => 0))), (q_weight, .inl (cI, N, .inl (fun _ => 0)))]) := hD
  refine va_put (D := (dC, dI)) (ci := 4) (v := .ref q_weight) (ty := .array .int) (C := R_LC) (T := T_LC) (N := 9) hx hb htt hin_LC ty_LC tyok_LC nm_LC hown hK hP hD hS 0 rfl rfl 2 (by decide) (htt _ kt_148) (fun _ h9 => h9) rfl (by decide +kernel) rfl rfl (Nat.le_of_ble_eq_true rfl) d_LC_makeRoom_24 (fun H locs hP hD hS => ?_)
  have hP : va_P (dC, dI) vwCl ([(a0, .inr (4, [.ref a0_open, .ref q_clash, .ref q_weight, .ref a0_common, .ref a0_gain, .ref a0_sum, .int v0_rest, .int v0_versionSeen, .int v0_restSeen])), (a0_clash, .inl (cI, n0_clash, .inl w0_clash)), (a0_weight, .inl (cI, n0_weight, .inl w0_weight)), (a0_common, .inl (cI, n0_common, .inl w0_common)), (a0_gain, .inl (cI, n0_gain, .inl w0_gain)), (a0_sum, .inl (cJ, n0_sum, .inr (.inl w0_sum))), (q_clash, .inl (cI, N, .inl (fun _ => 0))), (q_weight, .inl (cI, N, .inl (fun _ => 0)))]) H := hP
  have hD : va_D A ([(a0, .inr (4, [.ref a0_open, .ref q_clash, .ref q_weight, .ref a0_common, .ref a0_gain, .ref a0_sum, .int v0_rest, .int v0_versionSeen, .int v0_restSeen])), (a0_clash, .inl (cI, n0_clash, .inl w0_clash)), (a0_weight, .inl (cI, n0_weight, .inl w0_weight)), (a0_common, .inl (cI, n0_common, .inl w0_common)), (a0_gain, .inl (cI, n0_gain, .inl w0_gain)), (a0_sum, .inl (cJ, n0_sum, .inr (.inl w0_sum))), (q_clash, .inl (cI, N, .inl (fun _ => 0))), (q_weight, .inl (cI, N, .inl (fun _ => 0)))]) := hD
  refine lv_aload_n hx hb d_LC_makeRoom_27 rfl (lv_at hl 0 rfl) ?_
  refine lv_iload_n hx hb d_LC_makeRoom_28 rfl (lv_at hl 1 rfl) ?_
  refine gx_newI hx hb (htt _ kt_arrI) hK hP hD hS hA (n := p1) (N' := N) hn0 hN (by show N * 4 ≤ 536870912; omega) (by show 0 + 1 + 1 + 1 ≤ mc; omega) (by show 0 + N + N + N ≤ ms; omega) d_LC_makeRoom_29 (fun q_common H hP hD hS => ?_)
  have hP : va_P (dC, dI) vwCl ([(a0, .inr (4, [.ref a0_open, .ref q_clash, .ref q_weight, .ref a0_common, .ref a0_gain, .ref a0_sum, .int v0_rest, .int v0_versionSeen, .int v0_restSeen])), (a0_clash, .inl (cI, n0_clash, .inl w0_clash)), (a0_weight, .inl (cI, n0_weight, .inl w0_weight)), (a0_common, .inl (cI, n0_common, .inl w0_common)), (a0_gain, .inl (cI, n0_gain, .inl w0_gain)), (a0_sum, .inl (cJ, n0_sum, .inr (.inl w0_sum))), (q_clash, .inl (cI, N, .inl (fun _ => 0))), (q_weight, .inl (cI, N, .inl (fun _ => 0))), (q_common, .inl (cI, N, .inl (fun _ => 0)))]) H := hP
  have hD : va_D A ([(a0, .inr (4, [.ref a0_open, .ref q_clash, .ref q_weight, .ref a0_common, .ref a0_gain, .ref a0_sum, .int v0_rest, .int v0_versionSeen, .int v0_restSeen])), (a0_clash, .inl (cI, n0_clash, .inl w0_clash)), (a0_weight, .inl (cI, n0_weight, .inl w0_weight)), (a0_common, .inl (cI, n0_common, .inl w0_common)), (a0_gain, .inl (cI, n0_gain, .inl w0_gain)), (a0_sum, .inl (cJ, n0_sum, .inr (.inl w0_sum))), (q_clash, .inl (cI, N, .inl (fun _ => 0))), (q_weight, .inl (cI, N, .inl (fun _ => 0))), (q_common, .inl (cI, N, .inl (fun _ => 0)))]) := hD
  refine va_put (D := (dC, dI)) (ci := 4) (v := .ref q_common) (ty := .array .int) (C := R_LC) (T := T_LC) (N := 9) hx hb htt hin_LC ty_LC tyok_LC nm_LC hown hK hP hD hS 0 rfl rfl 3 (by decide) (htt _ kt_149) (fun _ h9 => h9) rfl (by decide +kernel) rfl rfl (Nat.le_of_ble_eq_true rfl) d_LC_makeRoom_31 (fun H locs hP hD hS => ?_)
  have hP : va_P (dC, dI) vwCl ([(a0, .inr (4, [.ref a0_open, .ref q_clash, .ref q_weight, .ref q_common, .ref a0_gain, .ref a0_sum, .int v0_rest, .int v0_versionSeen, .int v0_restSeen])), (a0_clash, .inl (cI, n0_clash, .inl w0_clash)), (a0_weight, .inl (cI, n0_weight, .inl w0_weight)), (a0_common, .inl (cI, n0_common, .inl w0_common)), (a0_gain, .inl (cI, n0_gain, .inl w0_gain)), (a0_sum, .inl (cJ, n0_sum, .inr (.inl w0_sum))), (q_clash, .inl (cI, N, .inl (fun _ => 0))), (q_weight, .inl (cI, N, .inl (fun _ => 0))), (q_common, .inl (cI, N, .inl (fun _ => 0)))]) H := hP
  have hD : va_D A ([(a0, .inr (4, [.ref a0_open, .ref q_clash, .ref q_weight, .ref q_common, .ref a0_gain, .ref a0_sum, .int v0_rest, .int v0_versionSeen, .int v0_restSeen])), (a0_clash, .inl (cI, n0_clash, .inl w0_clash)), (a0_weight, .inl (cI, n0_weight, .inl w0_weight)), (a0_common, .inl (cI, n0_common, .inl w0_common)), (a0_gain, .inl (cI, n0_gain, .inl w0_gain)), (a0_sum, .inl (cJ, n0_sum, .inr (.inl w0_sum))), (q_clash, .inl (cI, N, .inl (fun _ => 0))), (q_weight, .inl (cI, N, .inl (fun _ => 0))), (q_common, .inl (cI, N, .inl (fun _ => 0)))]) := hD
  refine lv_aload_n hx hb d_LC_makeRoom_34 rfl (lv_at hl 0 rfl) ?_
  refine lv_iload_n hx hb d_LC_makeRoom_35 rfl (lv_at hl 1 rfl) ?_
  refine gx_newI hx hb (htt _ kt_arrI) hK hP hD hS hA (n := p1) (N' := N) hn0 hN (by show N * 4 ≤ 536870912; omega) (by show 0 + 1 + 1 + 1 + 1 ≤ mc; omega) (by show 0 + N + N + N + N ≤ ms; omega) d_LC_makeRoom_36 (fun q_gain H hP hD hS => ?_)
  have hP : va_P (dC, dI) vwCl ([(a0, .inr (4, [.ref a0_open, .ref q_clash, .ref q_weight, .ref q_common, .ref a0_gain, .ref a0_sum, .int v0_rest, .int v0_versionSeen, .int v0_restSeen])), (a0_clash, .inl (cI, n0_clash, .inl w0_clash)), (a0_weight, .inl (cI, n0_weight, .inl w0_weight)), (a0_common, .inl (cI, n0_common, .inl w0_common)), (a0_gain, .inl (cI, n0_gain, .inl w0_gain)), (a0_sum, .inl (cJ, n0_sum, .inr (.inl w0_sum))), (q_clash, .inl (cI, N, .inl (fun _ => 0))), (q_weight, .inl (cI, N, .inl (fun _ => 0))), (q_common, .inl (cI, N, .inl (fun _ => 0))), (q_gain, .inl (cI, N, .inl (fun _ => 0)))]) H := hP
  have hD : va_D A ([(a0, .inr (4, [.ref a0_open, .ref q_clash, .ref q_weight, .ref q_common, .ref a0_gain, .ref a0_sum, .int v0_rest, .int v0_versionSeen, .int v0_restSeen])), (a0_clash, .inl (cI, n0_clash, .inl w0_clash)), (a0_weight, .inl (cI, n0_weight, .inl w0_weight)), (a0_common, .inl (cI, n0_common, .inl w0_common)), (a0_gain, .inl (cI, n0_gain, .inl w0_gain)), (a0_sum, .inl (cJ, n0_sum, .inr (.inl w0_sum))), (q_clash, .inl (cI, N, .inl (fun _ => 0))), (q_weight, .inl (cI, N, .inl (fun _ => 0))), (q_common, .inl (cI, N, .inl (fun _ => 0))), (q_gain, .inl (cI, N, .inl (fun _ => 0)))]) := hD
  refine va_put (D := (dC, dI)) (ci := 4) (v := .ref q_gain) (ty := .array .int) (C := R_LC) (T := T_LC) (N := 9) hx hb htt hin_LC ty_LC tyok_LC nm_LC hown hK hP hD hS 0 rfl rfl 4 (by decide) (htt _ kt_150) (fun _ h9 => h9) rfl (by decide +kernel) rfl rfl (Nat.le_of_ble_eq_true rfl) d_LC_makeRoom_38 (fun H locs hP hD hS => ?_)
  have hP : va_P (dC, dI) vwCl ([(a0, .inr (4, [.ref a0_open, .ref q_clash, .ref q_weight, .ref q_common, .ref q_gain, .ref a0_sum, .int v0_rest, .int v0_versionSeen, .int v0_restSeen])), (a0_clash, .inl (cI, n0_clash, .inl w0_clash)), (a0_weight, .inl (cI, n0_weight, .inl w0_weight)), (a0_common, .inl (cI, n0_common, .inl w0_common)), (a0_gain, .inl (cI, n0_gain, .inl w0_gain)), (a0_sum, .inl (cJ, n0_sum, .inr (.inl w0_sum))), (q_clash, .inl (cI, N, .inl (fun _ => 0))), (q_weight, .inl (cI, N, .inl (fun _ => 0))), (q_common, .inl (cI, N, .inl (fun _ => 0))), (q_gain, .inl (cI, N, .inl (fun _ => 0)))]) H := hP
  have hD : va_D A ([(a0, .inr (4, [.ref a0_open, .ref q_clash, .ref q_weight, .ref q_common, .ref q_gain, .ref a0_sum, .int v0_rest, .int v0_versionSeen, .int v0_restSeen])), (a0_clash, .inl (cI, n0_clash, .inl w0_clash)), (a0_weight, .inl (cI, n0_weight, .inl w0_weight)), (a0_common, .inl (cI, n0_common, .inl w0_common)), (a0_gain, .inl (cI, n0_gain, .inl w0_gain)), (a0_sum, .inl (cJ, n0_sum, .inr (.inl w0_sum))), (q_clash, .inl (cI, N, .inl (fun _ => 0))), (q_weight, .inl (cI, N, .inl (fun _ => 0))), (q_common, .inl (cI, N, .inl (fun _ => 0))), (q_gain, .inl (cI, N, .inl (fun _ => 0)))]) := hD
  refine lv_aload_n hx hb d_LC_makeRoom_41 rfl (lv_at hl 0 rfl) ?_
  refine lv_iload_n hx hb d_LC_makeRoom_42 rfl (lv_at hl 1 rfl) ?_
  refine gx_newJ hx hb (htt _ kt_arrJ) hK hP hD hS hA (n := p1) (N' := N) hn0 hN (by show N * 8 ≤ 536870912; omega) (by show 0 + 1 + 1 + 1 + 1 + 1 ≤ mc; omega) (by show 0 + N + N + N + N + N ≤ ms; omega) d_LC_makeRoom_43 (fun q_sum H hP hD hS => ?_)
  have hP : va_P (dC, dI) vwCl ([(a0, .inr (4, [.ref a0_open, .ref q_clash, .ref q_weight, .ref q_common, .ref q_gain, .ref a0_sum, .int v0_rest, .int v0_versionSeen, .int v0_restSeen])), (a0_clash, .inl (cI, n0_clash, .inl w0_clash)), (a0_weight, .inl (cI, n0_weight, .inl w0_weight)), (a0_common, .inl (cI, n0_common, .inl w0_common)), (a0_gain, .inl (cI, n0_gain, .inl w0_gain)), (a0_sum, .inl (cJ, n0_sum, .inr (.inl w0_sum))), (q_clash, .inl (cI, N, .inl (fun _ => 0))), (q_weight, .inl (cI, N, .inl (fun _ => 0))), (q_common, .inl (cI, N, .inl (fun _ => 0))), (q_gain, .inl (cI, N, .inl (fun _ => 0))), (q_sum, .inl (cJ, N, .inr (.inl (fun _ => 0))))]) H := hP
  have hD : va_D A ([(a0, .inr (4, [.ref a0_open, .ref q_clash, .ref q_weight, .ref q_common, .ref q_gain, .ref a0_sum, .int v0_rest, .int v0_versionSeen, .int v0_restSeen])), (a0_clash, .inl (cI, n0_clash, .inl w0_clash)), (a0_weight, .inl (cI, n0_weight, .inl w0_weight)), (a0_common, .inl (cI, n0_common, .inl w0_common)), (a0_gain, .inl (cI, n0_gain, .inl w0_gain)), (a0_sum, .inl (cJ, n0_sum, .inr (.inl w0_sum))), (q_clash, .inl (cI, N, .inl (fun _ => 0))), (q_weight, .inl (cI, N, .inl (fun _ => 0))), (q_common, .inl (cI, N, .inl (fun _ => 0))), (q_gain, .inl (cI, N, .inl (fun _ => 0))), (q_sum, .inl (cJ, N, .inr (.inl (fun _ => 0))))]) := hD
  refine va_put (D := (dC, dI)) (ci := 4) (v := .ref q_sum) (ty := .array .long) (C := R_LC) (T := T_LC) (N := 9) hx hb htt hin_LC ty_LC tyok_LC nm_LC hown hK hP hD hS 0 rfl rfl 5 (by decide) (htt _ kt_151) (fun _ h9 => h9) rfl (by decide +kernel) rfl rfl (Nat.le_of_ble_eq_true rfl) d_LC_makeRoom_45 (fun H locs hP hD hS => ?_)
  have hP : va_P (dC, dI) vwCl ([(a0, .inr (4, [.ref a0_open, .ref q_clash, .ref q_weight, .ref q_common, .ref q_gain, .ref q_sum, .int v0_rest, .int v0_versionSeen, .int v0_restSeen])), (a0_clash, .inl (cI, n0_clash, .inl w0_clash)), (a0_weight, .inl (cI, n0_weight, .inl w0_weight)), (a0_common, .inl (cI, n0_common, .inl w0_common)), (a0_gain, .inl (cI, n0_gain, .inl w0_gain)), (a0_sum, .inl (cJ, n0_sum, .inr (.inl w0_sum))), (q_clash, .inl (cI, N, .inl (fun _ => 0))), (q_weight, .inl (cI, N, .inl (fun _ => 0))), (q_common, .inl (cI, N, .inl (fun _ => 0))), (q_gain, .inl (cI, N, .inl (fun _ => 0))), (q_sum, .inl (cJ, N, .inr (.inl (fun _ => 0))))]) H := hP
  have hD : va_D A ([(a0, .inr (4, [.ref a0_open, .ref q_clash, .ref q_weight, .ref q_common, .ref q_gain, .ref q_sum, .int v0_rest, .int v0_versionSeen, .int v0_restSeen])), (a0_clash, .inl (cI, n0_clash, .inl w0_clash)), (a0_weight, .inl (cI, n0_weight, .inl w0_weight)), (a0_common, .inl (cI, n0_common, .inl w0_common)), (a0_gain, .inl (cI, n0_gain, .inl w0_gain)), (a0_sum, .inl (cJ, n0_sum, .inr (.inl w0_sum))), (q_clash, .inl (cI, N, .inl (fun _ => 0))), (q_weight, .inl (cI, N, .inl (fun _ => 0))), (q_common, .inl (cI, N, .inl (fun _ => 0))), (q_gain, .inl (cI, N, .inl (fun _ => 0))), (q_sum, .inl (cJ, N, .inr (.inl (fun _ => 0))))]) := hD
  refine lv_aload_n hx hb d_LC_makeRoom_48 rfl (lv_at hl 0 rfl) ?_
  refine lv_iconst (v := (-1)) hx hb d_LC_makeRoom_49 (by decide) ?_
  refine va_put (D := (dC, dI)) (ci := 4) (v := .int (-1)) (ty := .int) (C := R_LC) (T := T_LC) (N := 9) hx hb htt hin_LC ty_LC tyok_LC nm_LC hown hK hP hD hS 0 rfl rfl 7 (by decide) (htt _ kt_153) (fun _ h9 => h9) rfl (by decide +kernel) rfl rfl (Nat.le_of_ble_eq_true rfl) d_LC_makeRoom_50 (fun H locs hP hD hS => ?_)
  have hP : va_P (dC, dI) vwCl ([(a0, .inr (4, [.ref a0_open, .ref q_clash, .ref q_weight, .ref q_common, .ref q_gain, .ref q_sum, .int v0_rest, .int (-1), .int v0_restSeen])), (a0_clash, .inl (cI, n0_clash, .inl w0_clash)), (a0_weight, .inl (cI, n0_weight, .inl w0_weight)), (a0_common, .inl (cI, n0_common, .inl w0_common)), (a0_gain, .inl (cI, n0_gain, .inl w0_gain)), (a0_sum, .inl (cJ, n0_sum, .inr (.inl w0_sum))), (q_clash, .inl (cI, N, .inl (fun _ => 0))), (q_weight, .inl (cI, N, .inl (fun _ => 0))), (q_common, .inl (cI, N, .inl (fun _ => 0))), (q_gain, .inl (cI, N, .inl (fun _ => 0))), (q_sum, .inl (cJ, N, .inr (.inl (fun _ => 0))))]) H := hP
  have hD : va_D A ([(a0, .inr (4, [.ref a0_open, .ref q_clash, .ref q_weight, .ref q_common, .ref q_gain, .ref q_sum, .int v0_rest, .int (-1), .int v0_restSeen])), (a0_clash, .inl (cI, n0_clash, .inl w0_clash)), (a0_weight, .inl (cI, n0_weight, .inl w0_weight)), (a0_common, .inl (cI, n0_common, .inl w0_common)), (a0_gain, .inl (cI, n0_gain, .inl w0_gain)), (a0_sum, .inl (cJ, n0_sum, .inr (.inl w0_sum))), (q_clash, .inl (cI, N, .inl (fun _ => 0))), (q_weight, .inl (cI, N, .inl (fun _ => 0))), (q_common, .inl (cI, N, .inl (fun _ => 0))), (q_gain, .inl (cI, N, .inl (fun _ => 0))), (q_sum, .inl (cJ, N, .inr (.inl (fun _ => 0))))]) := hD
  have hP : va_P (dC, dI) vwCl (wd_LC_makeRoom cI cJ cG cZ a0 a0_open q_clash q_weight q_common q_gain q_sum v0_rest (-1) v0_restSeen N (fun _ => 0) N (fun _ => 0) N (fun _ => 0) N (fun _ => 0) N (fun _ => 0)) H := hP.sub [0, 6, 7, 8, 9, 10] rfl
  have hD : va_D A (wd_LC_makeRoom cI cJ cG cZ a0 a0_open q_clash q_weight q_common q_gain q_sum v0_rest (-1) v0_restSeen N (fun _ => 0) N (fun _ => 0) N (fun _ => 0) N (fun _ => 0) N (fun _ => 0)) := hD.sub [0, 6, 7, 8, 9, 10] (by decide) rfl
  refine W.widen (k := mc) (n := ms) (by show 0 + 1 + 1 + 1 + 1 + 1 ≤ mc; omega) (by show 0 + N + N + N + N + N ≤ ms; omega) ?_
  exact W.vret hx hb hr (fun t ht hW => ⟨⟨(q_clash, q_weight, q_common, q_gain, q_sum), rfl, trivial, by rw [ht]; exact hP, va_K.moved hW.alike hK, hD⟩, hS.F ht⟩) hS.2.2 d_LC_makeRoom_53
theorem d_LC_count_0 : decode prog_3_method_2_code 0 = .ok (.aload_n 2, 1) := by decide +kernel
theorem d_LC_count_1 : decode prog_3_method_2_code 1 = .ok (.iconst 0, 1) := by decide +kernel
theorem d_LC_count_2 : decode prog_3_method_2_code 2 = .ok (.aload_n 0, 1) := by decide +kernel
theorem d_LC_count_3 : decode prog_3_method_2_code 3 = .ok (.getfield 9, 3) := by decide +kernel
theorem d_LC_count_6 : decode prog_3_method_2_code 6 = .ok (.iconst 0, 1) := by decide +kernel
theorem d_LC_count_7 : decode prog_3_method_2_code 7 = .ok (.aload_n 1, 1) := by decide +kernel
theorem d_LC_count_8 : decode prog_3_method_2_code 8 = .ok (.getfield 35, 3) := by decide +kernel
theorem d_LC_count_11 : decode prog_3_method_2_code 11 = .ok (.invokestatic 40, 3) := by decide +kernel
theorem d_LC_count_14 : decode prog_3_method_2_code 14 = .ok (.aload_n 0, 1) := by decide +kernel
theorem d_LC_count_15 : decode prog_3_method_2_code 15 = .ok (.aload_n 1, 1) := by decide +kernel
theorem d_LC_count_16 : decode prog_3_method_2_code 16 = .ok (.invokevirtual 46, 3) := by decide +kernel
theorem d_LC_count_19 : decode prog_3_method_2_code 19 = .ok (.putfield 50, 3) := by decide +kernel
theorem d_LC_count_22 : decode prog_3_method_2_code 22 = .ok (.aload_n 0, 1) := by decide +kernel
theorem d_LC_count_23 : decode prog_3_method_2_code 23 = .ok (.aload_n 1, 1) := by decide +kernel
theorem d_LC_count_24 : decode prog_3_method_2_code 24 = .ok (.invokevirtual 53, 3) := by decide +kernel
theorem d_LC_count_27 : decode prog_3_method_2_code 27 = .ok (.lstore_n 3, 1) := by decide +kernel
theorem d_LC_count_28 : decode prog_3_method_2_code 28 = .ok (.lload_n 3, 1) := by decide +kernel
theorem d_LC_count_29 : decode prog_3_method_2_code 29 = .ok (.lconst 0, 1) := by decide +kernel
theorem d_LC_count_30 : decode prog_3_method_2_code 30 = .ok (.lcmp, 1) := by decide +kernel
theorem d_LC_count_31 : decode prog_3_method_2_code 31 = .ok (.ifCond .eq 10, 3) := by decide +kernel
theorem d_LC_count_34 : decode prog_3_method_2_code 34 = .ok (.aload_n 0, 1) := by decide +kernel
theorem d_LC_count_35 : decode prog_3_method_2_code 35 = .ok (.getfield 50, 3) := by decide +kernel
theorem d_LC_count_38 : decode prog_3_method_2_code 38 = .ok (.ifCond .ne 5, 3) := by decide +kernel
theorem d_LC_count_41 : decode prog_3_method_2_code 41 = .ok (.lload_n 3, 1) := by decide +kernel
theorem d_LC_count_42 : decode prog_3_method_2_code 42 = .ok (.lreturn, 1) := by decide +kernel
theorem d_LC_count_43 : decode prog_3_method_2_code 43 = .ok (.aload_n 0, 1) := by decide +kernel
theorem d_LC_count_44 : decode prog_3_method_2_code 44 = .ok (.iconst 1, 1) := by decide +kernel
theorem d_LC_count_45 : decode prog_3_method_2_code 45 = .ok (.aload_n 1, 1) := by decide +kernel
theorem d_LC_count_46 : decode prog_3_method_2_code 46 = .ok (.getfield 35, 3) := by decide +kernel
theorem d_LC_count_49 : decode prog_3_method_2_code 49 = .ok (.ishl, 1) := by decide +kernel
theorem d_LC_count_50 : decode prog_3_method_2_code 50 = .ok (.invokevirtual 57, 3) := by decide +kernel
theorem d_LC_count_53 : decode prog_3_method_2_code 53 = .ok (.aload_n 0, 1) := by decide +kernel
theorem d_LC_count_54 : decode prog_3_method_2_code 54 = .ok (.getfield 31, 3) := by decide +kernel
theorem d_LC_count_57 : decode prog_3_method_2_code 57 = .ok (.aload_n 1, 1) := by decide +kernel
theorem d_LC_count_58 : decode prog_3_method_2_code 58 = .ok (.getfield 61, 3) := by decide +kernel
theorem d_LC_count_61 : decode prog_3_method_2_code 61 = .ok (.if_icmp .ne 18, 3) := by decide +kernel
theorem d_LC_count_64 : decode prog_3_method_2_code 64 = .ok (.aload_n 0, 1) := by decide +kernel
theorem d_LC_count_65 : decode prog_3_method_2_code 65 = .ok (.getfield 64, 3) := by decide +kernel
theorem d_LC_count_68 : decode prog_3_method_2_code 68 = .ok (.aload_n 0, 1) := by decide +kernel
theorem d_LC_count_69 : decode prog_3_method_2_code 69 = .ok (.getfield 50, 3) := by decide +kernel
theorem d_LC_count_72 : decode prog_3_method_2_code 72 = .ok (.if_icmp .ne 7, 3) := by decide +kernel
theorem d_LC_count_75 : decode prog_3_method_2_code 75 = .ok (.iconst 1, 1) := by decide +kernel
theorem d_LC_count_76 : decode prog_3_method_2_code 76 = .ok (.goto 4, 3) := by decide +kernel
theorem d_LC_count_79 : decode prog_3_method_2_code 79 = .ok (.iconst 0, 1) := by decide +kernel
theorem d_LC_count_80 : decode prog_3_method_2_code 80 = .ok (.istore 5, 2) := by decide +kernel
theorem d_LC_count_82 : decode prog_3_method_2_code 82 = .ok (.aload_n 0, 1) := by decide +kernel
theorem d_LC_count_83 : decode prog_3_method_2_code 83 = .ok (.aload_n 1, 1) := by decide +kernel
theorem d_LC_count_84 : decode prog_3_method_2_code 84 = .ok (.getfield 61, 3) := by decide +kernel
theorem d_LC_count_87 : decode prog_3_method_2_code 87 = .ok (.putfield 31, 3) := by decide +kernel
theorem d_LC_count_90 : decode prog_3_method_2_code 90 = .ok (.aload_n 0, 1) := by decide +kernel
theorem d_LC_count_91 : decode prog_3_method_2_code 91 = .ok (.aload_n 0, 1) := by decide +kernel
theorem d_LC_count_92 : decode prog_3_method_2_code 92 = .ok (.getfield 50, 3) := by decide +kernel
theorem d_LC_count_95 : decode prog_3_method_2_code 95 = .ok (.putfield 64, 3) := by decide +kernel
theorem d_LC_count_98 : decode prog_3_method_2_code 98 = .ok (.aload_n 0, 1) := by decide +kernel
theorem d_LC_count_99 : decode prog_3_method_2_code 99 = .ok (.getfield 50, 3) := by decide +kernel
theorem d_LC_count_102 : decode prog_3_method_2_code 102 = .ok (.istore 6, 2) := by decide +kernel
theorem d_LC_count_104 : decode prog_3_method_2_code 104 = .ok (.iconst 0, 1) := by decide +kernel
theorem d_LC_count_105 : decode prog_3_method_2_code 105 = .ok (.istore 7, 2) := by decide +kernel
theorem d_LC_count_107 : decode prog_3_method_2_code 107 = .ok (.iload 7, 2) := by decide +kernel
theorem d_LC_count_109 : decode prog_3_method_2_code 109 = .ok (.aload_n 1, 1) := by decide +kernel
theorem d_LC_count_110 : decode prog_3_method_2_code 110 = .ok (.getfield 35, 3) := by decide +kernel
theorem d_LC_count_113 : decode prog_3_method_2_code 113 = .ok (.if_icmp .ge 63, 3) := by decide +kernel
theorem d_LC_count_116 : decode prog_3_method_2_code 116 = .ok (.iload 6, 2) := by decide +kernel
theorem d_LC_count_118 : decode prog_3_method_2_code 118 = .ok (.iload 7, 2) := by decide +kernel
theorem d_LC_count_120 : decode prog_3_method_2_code 120 = .ok (.ishr, 1) := by decide +kernel
theorem d_LC_count_121 : decode prog_3_method_2_code 121 = .ok (.iconst 1, 1) := by decide +kernel
theorem d_LC_count_122 : decode prog_3_method_2_code 122 = .ok (.iand, 1) := by decide +kernel
theorem d_LC_count_123 : decode prog_3_method_2_code 123 = .ok (.ifCond .eq 47, 3) := by decide +kernel
theorem d_LC_count_126 : decode prog_3_method_2_code 126 = .ok (.aload_n 1, 1) := by decide +kernel
theorem d_LC_count_127 : decode prog_3_method_2_code 127 = .ok (.iconst 1, 1) := by decide +kernel
theorem d_LC_count_128 : decode prog_3_method_2_code 128 = .ok (.iload 7, 2) := by decide +kernel
theorem d_LC_count_130 : decode prog_3_method_2_code 130 = .ok (.ishl, 1) := by decide +kernel
theorem d_LC_count_131 : decode prog_3_method_2_code 131 = .ok (.aload_n 0, 1) := by decide +kernel
theorem d_LC_count_132 : decode prog_3_method_2_code 132 = .ok (.getfield 50, 3) := by decide +kernel
theorem d_LC_count_135 : decode prog_3_method_2_code 135 = .ok (.invokevirtual 67, 3) := by decide +kernel
theorem d_LC_count_138 : decode prog_3_method_2_code 138 = .ok (.istore 8, 2) := by decide +kernel
theorem d_LC_count_140 : decode prog_3_method_2_code 140 = .ok (.iload 6, 2) := by decide +kernel
theorem d_LC_count_142 : decode prog_3_method_2_code 142 = .ok (.iload 8, 2) := by decide +kernel
theorem d_LC_count_144 : decode prog_3_method_2_code 144 = .ok (.iconst (-1), 1) := by decide +kernel
theorem d_LC_count_145 : decode prog_3_method_2_code 145 = .ok (.ixor, 1) := by decide +kernel
theorem d_LC_count_146 : decode prog_3_method_2_code 146 = .ok (.iand, 1) := by decide +kernel
theorem d_LC_count_147 : decode prog_3_method_2_code 147 = .ok (.istore 6, 2) := by decide +kernel
theorem d_LC_count_149 : decode prog_3_method_2_code 149 = .ok (.iload 5, 2) := by decide +kernel
theorem d_LC_count_151 : decode prog_3_method_2_code 151 = .ok (.ifCond .ne 10, 3) := by decide +kernel
theorem d_LC_count_154 : decode prog_3_method_2_code 154 = .ok (.aload_n 0, 1) := by decide +kernel
theorem d_LC_count_155 : decode prog_3_method_2_code 155 = .ok (.aload_n 1, 1) := by decide +kernel
theorem d_LC_count_156 : decode prog_3_method_2_code 156 = .ok (.iload 8, 2) := by decide +kernel
theorem d_LC_count_158 : decode prog_3_method_2_code 158 = .ok (.invokevirtual 71, 3) := by decide +kernel
theorem d_LC_count_161 : decode prog_3_method_2_code 161 = .ok (.lload_n 3, 1) := by decide +kernel
theorem d_LC_count_162 : decode prog_3_method_2_code 162 = .ok (.aload_n 0, 1) := by decide +kernel
theorem d_LC_count_163 : decode prog_3_method_2_code 163 = .ok (.iload 8, 2) := by decide +kernel
theorem d_LC_count_165 : decode prog_3_method_2_code 165 = .ok (.invokevirtual 75, 3) := by decide +kernel
theorem d_LC_count_168 : decode prog_3_method_2_code 168 = .ok (.lmul, 1) := by decide +kernel
theorem d_LC_count_169 : decode prog_3_method_2_code 169 = .ok (.lstore_n 3, 1) := by decide +kernel
theorem d_LC_count_170 : decode prog_3_method_2_code 170 = .ok (.iinc 7 1, 3) := by decide +kernel
theorem d_LC_count_173 : decode prog_3_method_2_code 173 = .ok (.goto (-66), 3) := by decide +kernel
theorem d_LC_count_176 : decode prog_3_method_2_code 176 = .ok (.lload_n 3, 1) := by decide +kernel
theorem d_LC_count_177 : decode prog_3_method_2_code 177 = .ok (.lreturn, 1) := by decide +kernel
abbrev wd_LC_count (cI cJ cG cZ : ClassId) (a0 a1 a2 a0_open a0_clash a0_weight a0_common a0_gain a0_sum a1_near a1_tail a1_head : Nat) (v0_rest : Int32) (v0_versionSeen : Int32) (v0_restSeen : Int32) (w0_open : Nat → Int32) (n0_clash : Nat) (w0_clash : Nat → Int32) (n0_weight : Nat) (w0_weight : Nat → Int32) (n0_common : Nat) (w0_common : Nat → Int32) (n0_gain : Nat) (w0_gain : Nat → Int32) (n0_sum : Nat) (w0_sum : Nat → Int64) (v1_nodes : Int32) (v1_arcCount : Int32) (v1_version : Int32) (w1_near : Nat → Int32) (w2 : Nat → Int32) : va_W := [(a0, .inr (4, [.ref a0_open, .ref a0_clash, .ref a0_weight, .ref a0_common, .ref a0_gain, .ref a0_sum, .int v0_rest, .int v0_versionSeen, .int v0_restSeen])), (a0_open, .inl (cI, 12, .inl w0_open)), (a0_clash, .inl (cI, n0_clash, .inl w0_clash)), (a0_weight, .inl (cI, n0_weight, .inl w0_weight)), (a0_common, .inl (cI, n0_common, .inl w0_common)), (a0_gain, .inl (cI, n0_gain, .inl w0_gain)), (a0_sum, .inl (cJ, n0_sum, .inr (.inl w0_sum))), (a1, .inr (1, [.ref a1_near, .ref a1_tail, .ref a1_head, .int v1_nodes, .int v1_arcCount, .int v1_version])), (a1_near, .inl (cI, 12, .inl w1_near)), (a2, .inl (cI, 12, .inl w2))]
abbrev us_LC_count : List Cond := .code y_LC_count prog_3_method_2_code 9 (some .long) :: gtbl
abbrev rm_LC_count (mc ms : Nat) : Room := { frames := 4, cells := mc, slots := ms, locals := 89 }
def m_LC_count (F : Nat) (v0_rest : Int32) (v0_versionSeen : Int32) (v0_restSeen : Int32) (w0_open : Nat → Int32) (n0_clash : Nat) (w0_clash : Nat → Int32) (n0_weight : Nat) (w0_weight : Nat → Int32) (n0_common : Nat) (w0_common : Nat → Int32) (n0_gain : Nat) (w0_gain : Nat → Int32) (n0_sum : Nat) (w0_sum : Nat → Int64) (v1_nodes : Int32) (v1_arcCount : Int32) (v1_version : Int32) (w1_near : Nat → Int32) (w2 : Nat → Int32) : Option (Int64 × Int32 × Int32 × Int32 × (Nat → Int32) × Nat × (Nat → Int32) × Nat × (Nat → Int32) × Nat × (Nat → Int32) × Nat × (Nat → Int32) × Nat × (Nat → Int64)) :=
  gC (cpyB (0 : Int32) (0 : Int32) v1_nodes 12 12) (
  gM (m_Net_everyNode F v1_nodes v1_arcCount v1_version) (fun q_2 =>
  gM (m_LC_takeSimple F q_2 v0_versionSeen v0_restSeen (va_cpy w2 w0_open (0 : Int32).toNatClampNeg (0 : Int32).toNatClampNeg v1_nodes.toNatClampNeg) v1_nodes v1_arcCount v1_version w1_near) (fun (z_9 : Int64 × Int32 × (Nat → Int32)) => match z_9 with
  | (q_5, v0_rest_6, w0_open_7) =>
  if (lg_cmp q_5 0) = 0 then (
    some (q_5, v0_rest_6, v0_versionSeen, v0_restSeen, w0_open_7, n0_clash, w0_clash, n0_weight, w0_weight, n0_common, w0_common, n0_gain, w0_gain, n0_sum, w0_sum)
  ) else (
    if v0_rest_6 = 0 then (
      some (q_5, v0_rest_6, v0_versionSeen, v0_restSeen, w0_open_7, n0_clash, w0_clash, n0_weight, w0_weight, n0_common, w0_common, n0_gain, w0_gain, n0_sum, w0_sum)
    ) else (
      gM (m_LC_makeRoom F v0_rest_6 v0_versionSeen v0_restSeen n0_clash w0_clash n0_weight w0_weight n0_common w0_common n0_gain w0_gain n0_sum w0_sum ((1 : Int32) <<< (v1_nodes &&& 31))) (fun (z_25 : Int32 × Nat × (Nat → Int32) × Nat × (Nat → Int32) × Nat × (Nat → Int32) × Nat × (Nat → Int32) × Nat × (Nat → Int64)) => match z_25 with
      | (v0_versionSeen_13, n0_clash_14, w0_clash_15, n0_weight_16, w0_weight_17, n0_common_18, w0_common_19, n0_gain_20, w0_gain_21, n0_sum_22, w0_sum_23) =>
      gB (α := Int32 → Option (Int64 × Int32 × Int32 × Int32 × (Nat → Int32) × Nat × (Nat → Int32) × Nat × (Nat → Int32) × Nat × (Nat → Int32) × Nat × (Nat → Int32) × Nat × (Nat → Int64))) (fun s_26 =>
        gL (fun (k_107 : (Int64 × Int32 × Int32 × (Nat → Int32) × (Nat → Int32) × (Nat → Int32) × (Nat → Int32) × (Nat → Int64)) → Option (Int64 × Int32 × Int32 × Int32 × (Nat → Int32) × Nat × (Nat → Int32) × Nat × (Nat → Int32) × Nat × (Nat → Int32) × Nat × (Nat → Int32) × Nat × (Nat → Int64))) (z_107 : Int64 × Int32 × Int32 × (Nat → Int32) × (Nat → Int32) × (Nat → Int32) × (Nat → Int32) × (Nat → Int64)) => match z_107 with
        | (x3_27, x6_28, x7_29, w0_clash_30, w0_weight_31, w0_common_32, w0_gain_33, w0_sum_34) =>
        if v1_nodes ≤ x7_29 then (
          some (x3_27, v0_rest_6, v1_version, v0_rest_6, w0_open_7, n0_clash_14, w0_clash_30, n0_weight_16, w0_weight_31, n0_common_18, w0_common_32, n0_gain_20, w0_gain_33, n0_sum_22, w0_sum_34)
        ) else (
          if ((x6_28 >>> (x7_29 &&& 31)) &&& 1) = 0 then (
            gB (x7_29 + 1) (fun x7_37 =>
            k_107 (x3_27, x6_28, x7_37, w0_clash_30, w0_weight_31, w0_common_32, w0_gain_33, w0_sum_34))
          ) else (
            gM (m_Net_partOf F v1_nodes v1_arcCount v1_version w1_near ((1 : Int32) <<< (x7_29 &&& 31)) v0_rest_6) (fun q_38 =>
            gB (x6_28 &&& (q_38 ^^^ (-1))) (fun x6_41 =>
            gB (α := (Nat → Int32) → (Nat → Int32) → Option (Int64 × Int32 × Int32 × Int32 × (Nat → Int32) × Nat × (Nat → Int32) × Nat × (Nat → Int32) × Nat × (Nat → Int32) × Nat × (Nat → Int32) × Nat × (Nat → Int64))) (fun w0_clash_42 w0_weight_43 =>
              gM (m_LC_countPart F v0_rest_6 v1_version v0_rest_6 w0_open_7 n0_weight_16 w0_weight_43 n0_common_18 w0_common_32 n0_gain_20 w0_gain_33 n0_sum_22 w0_sum_34 q_38) (fun (z_49 : Int64 × (Nat → Int32) × (Nat → Int32) × (Nat → Int64)) => match z_49 with
              | (q_44, w0_common_45, w0_gain_46, w0_sum_47) =>
              gB (x3_27 * q_44) (fun x3_51 =>
              gB (x7_29 + 1) (fun x7_52 =>
              k_107 (x3_51, x6_41, x7_52, w0_clash_42, w0_weight_43, w0_common_45, w0_gain_46, w0_sum_47))))
            ) (fun J_161 =>
            if s_26 = 0 then (
              gM (m_LC_weighSetsOf F v0_rest_6 v1_version v0_rest_6 n0_clash_14 w0_clash_30 n0_weight_16 w0_weight_31 v1_nodes v1_arcCount v1_version w1_near q_38) (fun (z_57 : (Nat → Int32) × (Nat → Int32)) => match z_57 with
              | (w0_clash_54, w0_weight_55) =>
              J_161 w0_clash_54 w0_weight_55)
            ) else (
              J_161 w0_clash_30 w0_weight_31
            )
            )))
          )
        )
        ) F (q_5, v0_rest_6, 0, w0_clash_15, w0_weight_17, w0_common_19, w0_gain_21, w0_sum_23)
      ) (fun J_80 =>
      gB (α := Option (Int64 × Int32 × Int32 × Int32 × (Nat → Int32) × Nat × (Nat → Int32) × Nat × (Nat → Int32) × Nat × (Nat → Int32) × Nat × (Nat → Int32) × Nat × (Nat → Int64))) (
        J_80 0
      ) (fun J_79 =>
      if v0_versionSeen_13 = v1_version then (
        if v0_restSeen = v0_rest_6 then (
          J_80 1
        ) else (
          J_79
        )
      ) else (
        J_79
      )
      )
      ))
    )
  ))))
set_option maxHeartbeats 4000000 in
set_option maxRecDepth 100000 in
theorem c_LC_count (l : Launch) (dC : Nat → ClassId) (dI : Nat → Nat → Nat) (cI cJ cG cZ : ClassId) (a0 a1 a2 a0_open a0_clash a0_weight a0_common a0_gain a0_sum a1_near a1_tail a1_head : Nat) (sz : Nat) (F : Nat) (v0_rest : Int32) (v0_versionSeen : Int32) (v0_restSeen : Int32) (w0_open : Nat → Int32) (n0_clash : Nat) (w0_clash : Nat → Int32) (n0_weight : Nat) (w0_weight : Nat → Int32) (n0_common : Nat) (w0_common : Nat → Int32) (n0_gain : Nat) (w0_gain : Nat → Int32) (n0_sum : Nat) (w0_sum : Nat → Int64) (v1_nodes : Int32) (v1_arcCount : Int32) (v1_version : Int32) (w1_near : Nat → Int32) (w2 : Nat → Int32) (ret : Int64) (o_v0_rest : Int32) (o_v0_versionSeen : Int32) (o_v0_restSeen : Int32) (o_w0_open : Nat → Int32) (o_n0_clash : Nat) (o_w0_clash : Nat → Int32) (o_n0_weight : Nat) (o_w0_weight : Nat → Int32) (o_n0_common : Nat) (o_w0_common : Nat → Int32) (o_n0_gain : Nat) (o_w0_gain : Nat → Int32) (o_n0_sum : Nat) (o_w0_sum : Nat → Int64) (hm : m_LC_count F v0_rest v0_versionSeen v0_restSeen w0_open n0_clash w0_clash n0_weight w0_weight n0_common w0_common n0_gain w0_gain n0_sum w0_sum v1_nodes v1_arcCount v1_version w1_near w2 = some (ret, o_v0_rest, o_v0_versionSeen, o_v0_restSeen, o_w0_open, o_n0_clash, o_w0_clash, o_n0_weight, o_w0_weight, o_n0_common, o_w0_common, o_n0_gain, o_w0_gain, o_n0_sum, o_w0_sum)) (mc ms : Nat) (hg : ¬ ((1 : Int32) <<< (v1_nodes &&& 31)) ≤ nI n0_weight → ¬ ((1 : Int32) <<< (v1_nodes &&& 31)) ≤ 0 → 5 ≤ mc ∧ 5 * ((1 : Int32) <<< (v1_nodes &&& 31)).toNatClampNeg ≤ ms) : Met l y_LC_count us_LC_count (rm_LC_count mc ms) (PcS (dC, dI) (tyL cI cJ cG cZ) [.ref a0, .ref a1, .ref a2] sz (wd_LC_count cI cJ cG cZ a0 a1 a2 a0_open a0_clash a0_weight a0_common a0_gain a0_sum a1_near a1_tail a1_head v0_rest v0_versionSeen v0_restSeen w0_open n0_clash w0_clash n0_weight w0_weight n0_common w0_common n0_gain w0_gain n0_sum w0_sum v1_nodes v1_arcCount v1_version w1_near w2)) (va_Ql (fun (r : Int64) (_ : Nat × Nat × Nat × Nat × Nat) => ret = r) (fun u t => PoS (dC, dI) (tyL cI cJ cG cZ) (wd_LC_count cI cJ cG cZ a0 a1 a2 a0_open u.1 u.2.1 u.2.2.1 u.2.2.2.1 u.2.2.2.2 a1_near a1_tail a1_head o_v0_rest o_v0_versionSeen o_v0_restSeen o_w0_open o_n0_clash o_w0_clash o_n0_weight o_w0_weight o_n0_common o_w0_common o_n0_gain o_w0_gain o_n0_sum o_w0_sum v1_nodes v1_arcCount v1_version w1_near w2) (va_A (wd_LC_count cI cJ cG cZ a0 a1 a2 a0_open a0_clash a0_weight a0_common a0_gain a0_sum a1_near a1_tail a1_head v0_rest v0_versionSeen v0_restSeen w0_open n0_clash w0_clash n0_weight w0_weight n0_common w0_common n0_gain w0_gain n0_sum w0_sum v1_nodes v1_arcCount v1_version w1_near w2) sz) t) (va_A (wd_LC_count cI cJ cG cZ a0 a1 a2 a0_open a0_clash a0_weight a0_common a0_gain a0_sum a1_near a1_tail a1_head v0_rest v0_versionSeen v0_restSeen w0_open n0_clash w0_clash n0_weight w0_weight n0_common w0_common n0_gain w0_gain n0_sum w0_sum v1_nodes v1_arcCount v1_version w1_near w2) sz)) mc ms (va_A (wd_LC_count cI cJ cG cZ a0 a1 a2 a0_open a0_clash a0_weight a0_common a0_gain a0_sum a1_near a1_tail a1_head v0_rest v0_versionSeen v0_restSeen w0_open n0_clash w0_clash n0_weight w0_weight n0_common w0_common n0_gain w0_gain n0_sum w0_sum v1_nodes v1_arcCount v1_version w1_near w2) sz) := by
  refine Met.ofW (cc := prog_3_method_2_code) (maxL := 9) (ret := (some .long)) (by decide) rfl ?_
  intro p e s m args below meth c s₁ B hml hv
  obtain ⟨rfl, hsz, hP, hK, hD0, hNw⟩ := hv
  have hx := B.exec
  have hb := B.bytes
  have hr := B.returns
  have htt : ∀ w ∈ gtbl, w.before _ s = true := fun w h => atoms_spec (ws := us_LC_count) B.pre w (List.mem_cons_of_mem _ h)
  have hown : s.vm.findClass R_LC = some m.cls := findClass_of_methodNamed B.named
  have hlocks := B.notSynchronized
  subst hsz
  have hD := hD0.self (sz := s.heap.size)
  generalize hAe : va_A (wd_LC_count cI cJ cG cZ a0 a1 a2 a0_open a0_clash a0_weight a0_common a0_gain a0_sum a1_near a1_tail a1_head v0_rest v0_versionSeen v0_restSeen w0_open n0_clash w0_clash n0_weight w0_weight n0_common w0_common n0_gain w0_gain n0_sum w0_sum v1_nodes v1_arcCount v1_version w1_near w2) s.heap.size = A at hD ⊢
  have hA : ∀ q : Nat, s.heap.size ≤ q → A q := fun q h => by rw [← hAe]; exact Or.inr h
  clear hAe hD0
  have hS : va_S A s.heap s.heap [] := va_S.rf
  have hl := lv_entry ([.ref a0, .ref a1, .ref a2]) (n := 9) (Nat.le_of_ble_eq_true rfl)
  rw [lg_entry_eq]
  generalize (lg_sl ([.ref a0, .ref a1, .ref a2]) ++ List.replicate (9 - (lg_sl ([.ref a0, .ref a1, .ref a2])).length) Slot.unset).toArray = ls at hl ⊢
  have hl : lv_has ls 9 [(0, .ref a0), (1, .ref a1), (2, .ref a2)] := hl
  generalize hH : s.heap = H at hP ⊢
  have hS : va_S A s.heap H [] := hH ▸ hS
  generalize hLo : ([] : List Loc) = locs at hS ⊢
  clear hH hLo
  unfold m_LC_count at hm
  refine lv_aload_n hx hb d_LC_count_0 rfl (lv_at hl 2 rfl) ?_
  refine lv_iconst (v := 0) hx hb d_LC_count_1 (by decide) ?_
  refine lv_aload_n hx hb d_LC_count_2 rfl (lv_at hl 0 rfl) ?_
  refine va_get (D := (dC, dI)) (ci := 4) (v := .ref a0_open) (C := R_LC) (T := T_LC) (N := 9) hx hb htt hin_LC hown hK hP 0 rfl rfl 0 (by decide) (htt _ kt_146) (fun _ h9 => h9) rfl d_LC_count_3 ?_
  refine lv_iconst (v := 0) hx hb d_LC_count_6 (by decide) ?_
  refine lv_aload_n hx hb d_LC_count_7 rfl (lv_at hl 1 rfl) ?_
  refine va_get (D := (dC, dI)) (ci := 1) (v := .int v1_nodes) (C := R_Net) (T := T_Net) (N := 6) hx hb htt hin_Net hown hK hP 7 rfl rfl 3 (by decide) (htt _ kt_48) (fun _ h9 => h9) rfl d_LC_count_8 ?_
  obtain ⟨hy_1, hm⟩ := gC_e hm
  refine gx_copy hx hb hml hown htt kt_457 hK hP hD hS 9 1 rfl rfl hy_1 hl.1 (lv_room (Nat.le_of_ble_eq_true rfl)) (Nat.le_of_ble_eq_true rfl) (Nat.le_of_ble_eq_true rfl) d_LC_count_11 (fun H locs hP hD hS => ?_)
  have hP : va_P (dC, dI) vwCl (wd_LC_count cI cJ cG cZ a0 a1 a2 a0_open a0_clash a0_weight a0_common a0_gain a0_sum a1_near a1_tail a1_head v0_rest v0_versionSeen v0_restSeen (va_cpy w2 w0_open (0 : Int32).toNatClampNeg (0 : Int32).toNatClampNeg v1_nodes.toNatClampNeg) n0_clash w0_clash n0_weight w0_weight n0_common w0_common n0_gain w0_gain n0_sum w0_sum v1_nodes v1_arcCount v1_version w1_near w2) H := hP
  have hD : va_D A (wd_LC_count cI cJ cG cZ a0 a1 a2 a0_open a0_clash a0_weight a0_common a0_gain a0_sum a1_near a1_tail a1_head v0_rest v0_versionSeen v0_restSeen (va_cpy w2 w0_open (0 : Int32).toNatClampNeg (0 : Int32).toNatClampNeg v1_nodes.toNatClampNeg) n0_clash w0_clash n0_weight w0_weight n0_common w0_common n0_gain w0_gain n0_sum w0_sum v1_nodes v1_arcCount v1_version w1_near w2) := hD
  refine lv_aload_n hx hb d_LC_count_14 rfl (lv_at hl 0 rfl) ?_
  refine lv_aload_n hx hb d_LC_count_15 rfl (lv_at hl 1 rfl) ?_
  obtain ⟨q_2, hc_3, hm⟩ := gM_e hm
  have hPc : va_P (dC, dI) vwCl (wd_Net_everyNode cI cJ cG cZ a1 a1_near a1_tail a1_head v1_nodes v1_arcCount v1_version) H := hP.sub [7] rfl
  have hDc : va_D A (wd_Net_everyNode cI cJ cG cZ a1 a1_near a1_tail a1_head v1_nodes v1_arcCount v1_version) := hD.sub [7] (by decide) rfl
  have hFc : ∀ q, va_A (wd_Net_everyNode cI cJ cG cZ a1 a1_near a1_tail a1_head v1_nodes v1_arcCount v1_version) H.size q → A q := va_free hD hS hA [7] rfl
  refine va_calli (va_runV (As := []) (rest := [.ref a0]) ⟨hx, hb, hml, hown, htt⟩ (c_Net_everyNode l dC dI cI cJ cG cZ a1 a1_near a1_tail a1_head H.size F v1_nodes v1_arcCount v1_version q_2 hc_3) (cwV 0 htt (gdV kt_458 kt_400 kt_401 kt_2 kt_402) rfl rfl rfl (by decide +kernel) ⟨(Nat.le_of_ble_eq_true rfl), (Nat.le_of_ble_eq_true rfl)⟩) ⟨PcS_blind, va_recv hK hPc (ci := 1) (q0 := 0) rfl rfl, PcS_in hPc hK hDc hNw⟩ rfl rfl hl.1 rfl (lv_room (Nat.le_of_ble_eq_true rfl)) d_LC_count_16 ⟨Nat.zero_le _, Nat.zero_le _⟩) hS (fun q _ h => hFc q h) hFc (fun r_4 u t H1 locs ht hvm hw hB hz1 hk1 hS => ?_)
  obtain ⟨hP1, hK1, hD1⟩ := hB
  rw [ht] at hP1
  subst hw
  obtain ⟨hP, hD⟩ := va_join (wr := [(a0, .inr (4, [.ref a0_open, .ref a0_clash, .ref a0_weight, .ref a0_common, .ref a0_gain, .ref a0_sum, .int v0_rest, .int v0_versionSeen, .int v0_restSeen])), (a0_open, .inl (cI, 12, .inl (va_cpy w2 w0_open (0 : Int32).toNatClampNeg (0 : Int32).toNatClampNeg v1_nodes.toNatClampNeg))), (a0_clash, .inl (cI, n0_clash, .inl w0_clash)), (a0_weight, .inl (cI, n0_weight, .inl w0_weight)), (a0_common, .inl (cI, n0_common, .inl w0_common)), (a0_gain, .inl (cI, n0_gain, .inl w0_gain)), (a0_sum, .inl (cJ, n0_sum, .inr (.inl w0_sum))), (a1_near, .inl (cI, 12, .inl w1_near)), (a2, .inl (cI, 12, .inl w2))]) (w1 := (wd_Net_everyNode cI cJ cG cZ a1 a1_near a1_tail a1_head v1_nodes v1_arcCount v1_version)) hP hD [7] [0, 1, 2, 3, 4, 5, 6, 8, 9] rfl rfl (by decide) (by decide) hk1 hFc hP1 hD1
  have hP : va_P (dC, dI) vwCl (wd_LC_count cI cJ cG cZ a0 a1 a2 a0_open a0_clash a0_weight a0_common a0_gain a0_sum a1_near a1_tail a1_head v0_rest v0_versionSeen v0_restSeen (va_cpy w2 w0_open (0 : Int32).toNatClampNeg (0 : Int32).toNatClampNeg v1_nodes.toNatClampNeg) n0_clash w0_clash n0_weight w0_weight n0_common w0_common n0_gain w0_gain n0_sum w0_sum v1_nodes v1_arcCount v1_version w1_near w2) H1 := hP.sub [0, 1, 2, 3, 4, 5, 6, 9, 7, 8] rfl
  have hD : va_D A (wd_LC_count cI cJ cG cZ a0 a1 a2 a0_open a0_clash a0_weight a0_common a0_gain a0_sum a1_near a1_tail a1_head v0_rest v0_versionSeen v0_restSeen (va_cpy w2 w0_open (0 : Int32).toNatClampNeg (0 : Int32).toNatClampNeg v1_nodes.toNatClampNeg) n0_clash w0_clash n0_weight w0_weight n0_common w0_common n0_gain w0_gain n0_sum w0_sum v1_nodes v1_arcCount v1_version w1_near w2) := hD.sub [0, 1, 2, 3, 4, 5, 6, 9, 7, 8] (by decide) rfl
  clear hP1 hK1 hD1 hk1 hPc hDc hFc ht hvm hz1
  generalize H1 = H at hP hS ⊢
  refine va_put (D := (dC, dI)) (ci := 4) (v := .int q_2) (ty := .int) (C := R_LC) (T := T_LC) (N := 9) hx hb htt hin_LC ty_LC tyok_LC nm_LC hown hK hP hD hS 0 rfl rfl 6 (by decide) (htt _ kt_152) (fun _ h9 => h9) rfl (by decide +kernel) rfl rfl (Nat.le_of_ble_eq_true rfl) d_LC_count_19 (fun H locs hP hD hS => ?_)
  have hP : va_P (dC, dI) vwCl (wd_LC_count cI cJ cG cZ a0 a1 a2 a0_open a0_clash a0_weight a0_common a0_gain a0_sum a1_near a1_tail a1_head q_2 v0_versionSeen v0_restSeen (va_cpy w2 w0_open (0 : Int32).toNatClampNeg (0 : Int32).toNatClampNeg v1_nodes.toNatClampNeg) n0_clash w0_clash n0_weight w0_weight n0_common w0_common n0_gain w0_gain n0_sum w0_sum v1_nodes v1_arcCount v1_version w1_near w2) H := hP
  have hD : va_D A (wd_LC_count cI cJ cG cZ a0 a1 a2 a0_open a0_clash a0_weight a0_common a0_gain a0_sum a1_near a1_tail a1_head q_2 v0_versionSeen v0_restSeen (va_cpy w2 w0_open (0 : Int32).toNatClampNeg (0 : Int32).toNatClampNeg v1_nodes.toNatClampNeg) n0_clash w0_clash n0_weight w0_weight n0_common w0_common n0_gain w0_gain n0_sum w0_sum v1_nodes v1_arcCount v1_version w1_near w2) := hD
  refine lv_aload_n hx hb d_LC_count_22 rfl (lv_at hl 0 rfl) ?_
  refine lv_aload_n hx hb d_LC_count_23 rfl (lv_at hl 1 rfl) ?_
  obtain ⟨⟨q_5, v0_rest_6, w0_open_7⟩, hc_8, hm⟩ := gM_e hm
  dsimp only at hm
  have hPc : va_P (dC, dI) vwCl (wd_LC_takeSimple cI cJ cG cZ a0 a1 a0_open a0_clash a0_weight a0_common a0_gain a0_sum a1_near a1_tail a1_head q_2 v0_versionSeen v0_restSeen (va_cpy w2 w0_open (0 : Int32).toNatClampNeg (0 : Int32).toNatClampNeg v1_nodes.toNatClampNeg) v1_nodes v1_arcCount v1_version w1_near) H := hP.sub [0, 1, 7, 8] rfl
  have hDc : va_D A (wd_LC_takeSimple cI cJ cG cZ a0 a1 a0_open a0_clash a0_weight a0_common a0_gain a0_sum a1_near a1_tail a1_head q_2 v0_versionSeen v0_restSeen (va_cpy w2 w0_open (0 : Int32).toNatClampNeg (0 : Int32).toNatClampNeg v1_nodes.toNatClampNeg) v1_nodes v1_arcCount v1_version w1_near) := hD.sub [0, 1, 7, 8] (by decide) rfl
  have hFc : ∀ q, va_A (wd_LC_takeSimple cI cJ cG cZ a0 a1 a0_open a0_clash a0_weight a0_common a0_gain a0_sum a1_near a1_tail a1_head q_2 v0_versionSeen v0_restSeen (va_cpy w2 w0_open (0 : Int32).toNatClampNeg (0 : Int32).toNatClampNeg v1_nodes.toNatClampNeg) v1_nodes v1_arcCount v1_version w1_near) H.size q → A q := va_free hD hS hA [0, 1, 7, 8] rfl
  refine va_calll (va_runV (As := [.ref a1]) (rest := []) ⟨hx, hb, hml, hown, htt⟩ (c_LC_takeSimple l dC dI cI cJ cG cZ a0 a1 a0_open a0_clash a0_weight a0_common a0_gain a0_sum a1_near a1_tail a1_head H.size F q_2 v0_versionSeen v0_restSeen (va_cpy w2 w0_open (0 : Int32).toNatClampNeg (0 : Int32).toNatClampNeg v1_nodes.toNatClampNeg) v1_nodes v1_arcCount v1_version w1_near q_5 v0_rest_6 w0_open_7 hc_8) (cwV 1 htt (gdV kt_459 kt_461 kp_20 kt_5 kt_462) rfl rfl rfl (by decide +kernel) ⟨(Nat.le_of_ble_eq_true rfl), (Nat.le_of_ble_eq_true rfl)⟩) ⟨PcS_blind, va_recv hK hPc (ci := 4) (q0 := 0) rfl rfl, PcS_in hPc hK hDc hNw⟩ rfl rfl hl.1 rfl (lv_room (Nat.le_of_ble_eq_true rfl)) d_LC_count_24 ⟨Nat.zero_le _, Nat.zero_le _⟩) hS (fun q _ h => hFc q h) hFc (fun r_10 u t H1 locs ht hvm hw hB hz1 hk1 hS => ?_)
  obtain ⟨hP1, hK1, hD1⟩ := hB
  rw [ht] at hP1
  subst hw
  obtain ⟨hP, hD⟩ := va_join (wr := [(a0_clash, .inl (cI, n0_clash, .inl w0_clash)), (a0_weight, .inl (cI, n0_weight, .inl w0_weight)), (a0_common, .inl (cI, n0_common, .inl w0_common)), (a0_gain, .inl (cI, n0_gain, .inl w0_gain)), (a0_sum, .inl (cJ, n0_sum, .inr (.inl w0_sum))), (a2, .inl (cI, 12, .inl w2))]) (w1 := (wd_LC_takeSimple cI cJ cG cZ a0 a1 a0_open a0_clash a0_weight a0_common a0_gain a0_sum a1_near a1_tail a1_head v0_rest_6 v0_versionSeen v0_restSeen w0_open_7 v1_nodes v1_arcCount v1_version w1_near)) hP hD [0, 1, 7, 8] [2, 3, 4, 5, 6, 9] rfl rfl (by decide) (by decide) hk1 hFc hP1 hD1
  have hP : va_P (dC, dI) vwCl (wd_LC_count cI cJ cG cZ a0 a1 a2 a0_open a0_clash a0_weight a0_common a0_gain a0_sum a1_near a1_tail a1_head v0_rest_6 v0_versionSeen v0_restSeen w0_open_7 n0_clash w0_clash n0_weight w0_weight n0_common w0_common n0_gain w0_gain n0_sum w0_sum v1_nodes v1_arcCount v1_version w1_near w2) H1 := hP.sub [6, 7, 0, 1, 2, 3, 4, 8, 9, 5] rfl
  have hD : va_D A (wd_LC_count cI cJ cG cZ a0 a1 a2 a0_open a0_clash a0_weight a0_common a0_gain a0_sum a1_near a1_tail a1_head v0_rest_6 v0_versionSeen v0_restSeen w0_open_7 n0_clash w0_clash n0_weight w0_weight n0_common w0_common n0_gain w0_gain n0_sum w0_sum v1_nodes v1_arcCount v1_version w1_near w2) := hD.sub [6, 7, 0, 1, 2, 3, 4, 8, 9, 5] (by decide) rfl
  clear hP1 hK1 hD1 hk1 hPc hDc hFc ht hvm hz1
  generalize H1 = H at hP hS ⊢
  refine lv_lstore_n (lv' := [(3, .long q_5), (0, .ref a0), (1, .ref a1), (2, .ref a2)]) hx hb d_LC_count_27 rfl hl (by decide) rfl (fun ls hl => ?_)
  refine lv_lload_n hx hb d_LC_count_28 rfl (lv_at hl 0 rfl) ?_
  refine lv_lconst (v := 0) hx hb d_LC_count_29 (by decide) ?_
  refine W.lcmp hx hb d_LC_count_30 ?_
  refine lv_if_eq (tgt := 41) hx hb d_LC_count_31 (by decide) (fun c_11 => ?_) (fun c_11 => ?_)
  · have hm := ite_t c_11 hm
    refine lv_lload_n hx hb d_LC_count_41 rfl (lv_at hl 0 rfl) ?_
    cases hm
    refine W.widen (k := mc) (n := ms) (Nat.zero_le _) (Nat.zero_le _) ?_
    exact W.lret hx hb hr (fun t ht hW => ⟨⟨_, (a0_clash, a0_weight, a0_common, a0_gain, a0_sum), rfl, rfl, by rw [ht]; exact hP, va_K.moved hW.alike hK, hD⟩, hS.F ht⟩) hS.2.2 d_LC_count_42
  · have hm := ite_f c_11 hm
    refine lv_aload_n hx hb d_LC_count_34 rfl (lv_at hl 1 rfl) ?_
    refine va_get (D := (dC, dI)) (ci := 4) (v := .int v0_rest_6) (C := R_LC) (T := T_LC) (N := 9) hx hb htt hin_LC hown hK hP 0 rfl rfl 6 (by decide) (htt _ kt_152) (fun _ h9 => h9) rfl d_LC_count_35 ?_
    refine lv_if_ne (tgt := 43) hx hb d_LC_count_38 (by decide) (fun c_12 => ?_) (fun c_12 => ?_)
    · have hm := ite_f c_12 hm
      refine lv_aload_n hx hb d_LC_count_43 rfl (lv_at hl 1 rfl) ?_
      refine lv_iconst (v := 1) hx hb d_LC_count_44 (by decide) ?_
      refine lv_aload_n hx hb d_LC_count_45 rfl (lv_at hl 2 rfl) ?_
      refine va_get (D := (dC, dI)) (ci := 1) (v := .int v1_nodes) (C := R_Net) (T := T_Net) (N := 6) hx hb htt hin_Net hown hK hP 7 rfl rfl 3 (by decide) (htt _ kt_48) (fun _ h9 => h9) rfl d_LC_count_46 ?_
      refine lv_ishl hx hb d_LC_count_49 ?_
      obtain ⟨⟨v0_versionSeen_13, n0_clash_14, w0_clash_15, n0_weight_16, w0_weight_17, n0_common_18, w0_common_19, n0_gain_20, w0_gain_21, n0_sum_22, w0_sum_23⟩, hc_24, hm⟩ := gM_e hm
      dsimp only at hm
      have hPc : va_P (dC, dI) vwCl (wd_LC_makeRoom cI cJ cG cZ a0 a0_open a0_clash a0_weight a0_common a0_gain a0_sum v0_rest_6 v0_versionSeen v0_restSeen n0_clash w0_clash n0_weight w0_weight n0_common w0_common n0_gain w0_gain n0_sum w0_sum) H := hP.sub [0, 2, 3, 4, 5, 6] rfl
      have hDc : va_D A (wd_LC_makeRoom cI cJ cG cZ a0 a0_open a0_clash a0_weight a0_common a0_gain a0_sum v0_rest_6 v0_versionSeen v0_restSeen n0_clash w0_clash n0_weight w0_weight n0_common w0_common n0_gain w0_gain n0_sum w0_sum) := hD.sub [0, 2, 3, 4, 5, 6] (by decide) rfl
      have hFc : ∀ q, va_A (wd_LC_makeRoom cI cJ cG cZ a0 a0_open a0_clash a0_weight a0_common a0_gain a0_sum v0_rest_6 v0_versionSeen v0_restSeen n0_clash w0_clash n0_weight w0_weight n0_common w0_common n0_gain w0_gain n0_sum w0_sum) H.size q → A q := va_free hD hS hA [0, 2, 3, 4, 5, 6] rfl
      refine va_callv (va_runV (As := [.int ((1 : Int32) <<< (v1_nodes &&& 31))]) (rest := []) ⟨hx, hb, hml, hown, htt⟩ (c_LC_makeRoom l dC dI cI cJ cG cZ a0 a0_open a0_clash a0_weight a0_common a0_gain a0_sum H.size F v0_rest_6 v0_versionSeen v0_restSeen n0_clash w0_clash n0_weight w0_weight n0_common w0_common n0_gain w0_gain n0_sum w0_sum ((1 : Int32) <<< (v1_nodes &&& 31)) v0_versionSeen_13 n0_clash_14 w0_clash_15 n0_weight_16 w0_weight_17 n0_common_18 w0_common_19 n0_gain_20 w0_gain_21 n0_sum_22 w0_sum_23 hc_24 mc ms hg) (cwV 1 htt (gdV kt_476 kt_478 kp_23 kt_5 kt_479) rfl rfl rfl (by decide +kernel) ⟨(Nat.le_of_ble_eq_true rfl), (Nat.le_of_ble_eq_true rfl)⟩) ⟨PcS_blind, va_recv hK hPc (ci := 4) (q0 := 0) rfl rfl, PcS_in hPc hK hDc hNw⟩ rfl rfl hl.1 rfl (lv_room (Nat.le_of_ble_eq_true rfl)) d_LC_count_50 ⟨(by show 0 + mc ≤ mc; omega), (by show 0 + ms ≤ ms; omega)⟩) hS (fun q _ h => hFc q h) hFc (fun u t H1 locs ht hvm hw hB hz1 hk1 hS => ?_)
      refine W.cs (Nat.zero_add mc) (Nat.zero_add ms) ?_
      obtain ⟨a0_clash, a0_weight, a0_common, a0_gain, a0_sum⟩ := u
      obtain ⟨hP1, hK1, hD1⟩ := hB
      rw [ht] at hP1
      obtain ⟨hP, hD⟩ := va_join (wr := [(a0_open, .inl (cI, 12, .inl w0_open_7)), (a1, .inr (1, [.ref a1_near, .ref a1_tail, .ref a1_head, .int v1_nodes, .int v1_arcCount, .int v1_version])), (a1_near, .inl (cI, 12, .inl w1_near)), (a2, .inl (cI, 12, .inl w2))]) (w1 := (wd_LC_makeRoom cI cJ cG cZ a0 a0_open a0_clash a0_weight a0_common a0_gain a0_sum v0_rest_6 v0_versionSeen_13 v0_restSeen n0_clash_14 w0_clash_15 n0_weight_16 w0_weight_17 n0_common_18 w0_common_19 n0_gain_20 w0_gain_21 n0_sum_22 w0_sum_23)) hP hD [0, 2, 3, 4, 5, 6] [1, 7, 8, 9] rfl rfl (by decide) (by decide) hk1 hFc hP1 hD1
      have hP : va_P (dC, dI) vwCl (wd_LC_count cI cJ cG cZ a0 a1 a2 a0_open a0_clash a0_weight a0_common a0_gain a0_sum a1_near a1_tail a1_head v0_rest_6 v0_versionSeen_13 v0_restSeen w0_open_7 n0_clash_14 w0_clash_15 n0_weight_16 w0_weight_17 n0_common_18 w0_common_19 n0_gain_20 w0_gain_21 n0_sum_22 w0_sum_23 v1_nodes v1_arcCount v1_version w1_near w2) H1 := hP.sub [4, 0, 5, 6, 7, 8, 9, 1, 2, 3] rfl
      have hD : va_D A (wd_LC_count cI cJ cG cZ a0 a1 a2 a0_open a0_clash a0_weight a0_common a0_gain a0_sum a1_near a1_tail a1_head v0_rest_6 v0_versionSeen_13 v0_restSeen w0_open_7 n0_clash_14 w0_clash_15 n0_weight_16 w0_weight_17 n0_common_18 w0_common_19 n0_gain_20 w0_gain_21 n0_sum_22 w0_sum_23 v1_nodes v1_arcCount v1_version w1_near w2) := hD.sub [4, 0, 5, 6, 7, 8, 9, 1, 2, 3] (by decide) rfl
      clear hP1 hK1 hD1 hk1 hPc hDc hFc ht hvm hz1
      generalize H1 = H at hP hS ⊢
      refine lv_aload_n hx hb d_LC_count_53 rfl (lv_at hl 1 rfl) ?_
      refine va_get (D := (dC, dI)) (ci := 4) (v := .int v0_versionSeen_13) (C := R_LC) (T := T_LC) (N := 9) hx hb htt hin_LC hown hK hP 0 rfl rfl 7 (by decide) (htt _ kt_153) (fun _ h9 => h9) rfl d_LC_count_54 ?_
      refine lv_aload_n hx hb d_LC_count_57 rfl (lv_at hl 2 rfl) ?_
      refine va_get (D := (dC, dI)) (ci := 1) (v := .int v1_version) (C := R_Net) (T := T_Net) (N := 6) hx hb htt hin_Net hown hK hP 7 rfl rfl 5 (by decide) (htt _ kt_56) (fun _ h9 => h9) rfl d_LC_count_58 ?_
      obtain ⟨J_80, hJ_80, hm⟩ := gB_x hm
      have jp_80 : ∀ (s_26 : Int32) (ls : Array Slot) (H : Heap) (locs : List Loc), J_80 s_26 = some (ret, o_v0_rest, o_v0_versionSeen, o_v0_restSeen, o_w0_open, o_n0_clash, o_w0_clash, o_n0_weight, o_w0_weight, o_n0_common, o_w0_common, o_n0_gain, o_w0_gain, o_n0_sum, o_w0_sum) → lv_has ls 9 [(0, .ref a0), (1, .ref a1), (3, .long q_5)] → va_P (dC, dI) vwCl (wd_LC_count cI cJ cG cZ a0 a1 a2 a0_open a0_clash a0_weight a0_common a0_gain a0_sum a1_near a1_tail a1_head v0_rest_6 v0_versionSeen_13 v0_restSeen w0_open_7 n0_clash_14 w0_clash_15 n0_weight_16 w0_weight_17 n0_common_18 w0_common_19 n0_gain_20 w0_gain_21 n0_sum_22 w0_sum_23 v1_nodes v1_arcCount v1_version w1_near w2) H → va_D A (wd_LC_count cI cJ cG cZ a0 a1 a2 a0_open a0_clash a0_weight a0_common a0_gain a0_sum a1_near a1_tail a1_head v0_rest_6 v0_versionSeen_13 v0_restSeen w0_open_7 n0_clash_14 w0_clash_15 n0_weight_16 w0_weight_17 n0_common_18 w0_common_19 n0_gain_20 w0_gain_21 n0_sum_22 w0_sum_23 v1_nodes v1_arcCount v1_version w1_near w2) → va_S A s.heap H locs → W p l e (headSpec us_LC_count (rm_LC_count mc ms)).room s m ([.ref a0, .ref a1, .ref a2] : List Value).toArray below meth c H locs mc ms (MQ below (va_Ql (fun (r : Int64) (_ : Nat × Nat × Nat × Nat × Nat) => ret = r) (fun u t => PoS (dC, dI) (tyL cI cJ cG cZ) (wd_LC_count cI cJ cG cZ a0 a1 a2 a0_open u.1 u.2.1 u.2.2.1 u.2.2.2.1 u.2.2.2.2 a1_near a1_tail a1_head o_v0_rest o_v0_versionSeen o_v0_restSeen o_w0_open o_n0_clash o_w0_clash o_n0_weight o_w0_weight o_n0_common o_w0_common o_n0_gain o_w0_gain o_n0_sum o_w0_sum v1_nodes v1_arcCount v1_version w1_near w2) A t) A) ([.ref a0, .ref a1, .ref a2] : List Value).toArray s mc ms A) (F0 m 80 ls [.int s_26]) := by
        intro s_26 ls H locs hm hl hP hD hS
        have hm := jn1 hJ_80 hm
        refine lv_istore (lv' := [(5, .int s_26), (0, .ref a0), (1, .ref a1), (3, .long q_5)]) hx hb d_LC_count_80 hl (by decide) rfl (fun ls hl => ?_)
        refine lv_aload_n hx hb d_LC_count_82 rfl (lv_at hl 1 rfl) ?_
        refine lv_aload_n hx hb d_LC_count_83 rfl (lv_at hl 2 rfl) ?_
        refine va_get (D := (dC, dI)) (ci := 1) (v := .int v1_version) (C := R_Net) (T := T_Net) (N := 6) hx hb htt hin_Net hown hK hP 7 rfl rfl 5 (by decide) (htt _ kt_56) (fun _ h9 => h9) rfl d_LC_count_84 ?_
        refine va_put (D := (dC, dI)) (ci := 4) (v := .int v1_version) (ty := .int) (C := R_LC) (T := T_LC) (N := 9) hx hb htt hin_LC ty_LC tyok_LC nm_LC hown hK hP hD hS 0 rfl rfl 7 (by decide) (htt _ kt_153) (fun _ h9 => h9) rfl (by decide +kernel) rfl rfl (Nat.le_of_ble_eq_true rfl) d_LC_count_87 (fun H locs hP hD hS => ?_)
        have hP : va_P (dC, dI) vwCl (wd_LC_count cI cJ cG cZ a0 a1 a2 a0_open a0_clash a0_weight a0_common a0_gain a0_sum a1_near a1_tail a1_head v0_rest_6 v1_version v0_restSeen w0_open_7 n0_clash_14 w0_clash_15 n0_weight_16 w0_weight_17 n0_common_18 w0_common_19 n0_gain_20 w0_gain_21 n0_sum_22 w0_sum_23 v1_nodes v1_arcCount v1_version w1_near w2) H := hP
        have hD : va_D A (wd_LC_count cI cJ cG cZ a0 a1 a2 a0_open a0_clash a0_weight a0_common a0_gain a0_sum a1_near a1_tail a1_head v0_rest_6 v1_version v0_restSeen w0_open_7 n0_clash_14 w0_clash_15 n0_weight_16 w0_weight_17 n0_common_18 w0_common_19 n0_gain_20 w0_gain_21 n0_sum_22 w0_sum_23 v1_nodes v1_arcCount v1_version w1_near w2) := hD
        refine lv_aload_n hx hb d_LC_count_90 rfl (lv_at hl 1 rfl) ?_
        refine lv_aload_n hx hb d_LC_count_91 rfl (lv_at hl 1 rfl) ?_
        refine va_get (D := (dC, dI)) (ci := 4) (v := .int v0_rest_6) (C := R_LC) (T := T_LC) (N := 9) hx hb htt hin_LC hown hK hP 0 rfl rfl 6 (by decide) (htt _ kt_152) (fun _ h9 => h9) rfl d_LC_count_92 ?_
        refine va_put (D := (dC, dI)) (ci := 4) (v := .int v0_rest_6) (ty := .int) (C := R_LC) (T := T_LC) (N := 9) hx hb htt hin_LC ty_LC tyok_LC nm_LC hown hK hP hD hS 0 rfl rfl 8 (by decide) (htt _ kt_154) (fun _ h9 => h9) rfl (by decide +kernel) rfl rfl (Nat.le_of_ble_eq_true rfl) d_LC_count_95 (fun H locs hP hD hS => ?_)
        have hP : va_P (dC, dI) vwCl (wd_LC_count cI cJ cG cZ a0 a1 a2 a0_open a0_clash a0_weight a0_common a0_gain a0_sum a1_near a1_tail a1_head v0_rest_6 v1_version v0_rest_6 w0_open_7 n0_clash_14 w0_clash_15 n0_weight_16 w0_weight_17 n0_common_18 w0_common_19 n0_gain_20 w0_gain_21 n0_sum_22 w0_sum_23 v1_nodes v1_arcCount v1_version w1_near w2) H := hP
        have hD : va_D A (wd_LC_count cI cJ cG cZ a0 a1 a2 a0_open a0_clash a0_weight a0_common a0_gain a0_sum a1_near a1_tail a1_head v0_rest_6 v1_version v0_rest_6 w0_open_7 n0_clash_14 w0_clash_15 n0_weight_16 w0_weight_17 n0_common_18 w0_common_19 n0_gain_20 w0_gain_21 n0_sum_22 w0_sum_23 v1_nodes v1_arcCount v1_version w1_near w2) := hD
        refine lv_aload_n hx hb d_LC_count_98 rfl (lv_at hl 1 rfl) ?_
        refine va_get (D := (dC, dI)) (ci := 4) (v := .int v0_rest_6) (C := R_LC) (T := T_LC) (N := 9) hx hb htt hin_LC hown hK hP 0 rfl rfl 6 (by decide) (htt _ kt_152) (fun _ h9 => h9) rfl d_LC_count_99 ?_
        refine lv_istore (lv' := [(6, .int v0_rest_6), (5, .int s_26), (0, .ref a0), (1, .ref a1), (3, .long q_5)]) hx hb d_LC_count_102 hl (by decide) rfl (fun ls hl => ?_)
        refine lv_iconst (v := 0) hx hb d_LC_count_104 (by decide) ?_
        refine lv_istore (lv' := [(7, .int 0), (6, .int v0_rest_6), (5, .int s_26), (0, .ref a0), (1, .ref a1), (3, .long q_5)]) hx hb d_LC_count_105 hl (by decide) rfl (fun ls hl => ?_)
        refine gL_e (P := (fun (z_107 : Int64 × Int32 × Int32 × (Nat → Int32) × (Nat → Int32) × (Nat → Int32) × (Nat → Int32) × (Nat → Int64)) => ∀ (x3_27 : Int64), ∀ (x6_28 : Int32), ∀ (x7_29 : Int32), ∀ (w0_clash_30 : Nat → Int32), ∀ (w0_weight_31 : Nat → Int32), ∀ (w0_common_32 : Nat → Int32), ∀ (w0_gain_33 : Nat → Int32), ∀ (w0_sum_34 : Nat → Int64), z_107 = (x3_27, x6_28, x7_29, w0_clash_30, w0_weight_31, w0_common_32, w0_gain_33, w0_sum_34) → ∀ (ls : Array Slot) (H : Heap) (locs : List Loc), lv_has ls 9 [(0, .ref a0), (1, .ref a1), (3, .long x3_27), (5, .int s_26), (6, .int x6_28), (7, .int x7_29)] → va_P (dC, dI) vwCl (wd_LC_count cI cJ cG cZ a0 a1 a2 a0_open a0_clash a0_weight a0_common a0_gain a0_sum a1_near a1_tail a1_head v0_rest_6 v1_version v0_rest_6 w0_open_7 n0_clash_14 w0_clash_30 n0_weight_16 w0_weight_31 n0_common_18 w0_common_32 n0_gain_20 w0_gain_33 n0_sum_22 w0_sum_34 v1_nodes v1_arcCount v1_version w1_near w2) H → va_D A (wd_LC_count cI cJ cG cZ a0 a1 a2 a0_open a0_clash a0_weight a0_common a0_gain a0_sum a1_near a1_tail a1_head v0_rest_6 v1_version v0_rest_6 w0_open_7 n0_clash_14 w0_clash_30 n0_weight_16 w0_weight_31 n0_common_18 w0_common_32 n0_gain_20 w0_gain_33 n0_sum_22 w0_sum_34 v1_nodes v1_arcCount v1_version w1_near w2) → va_S A s.heap H locs → W p l e (headSpec us_LC_count (rm_LC_count mc ms)).room s m ([.ref a0, .ref a1, .ref a2] : List Value).toArray below meth c H locs mc ms (MQ below (va_Ql (fun (r : Int64) (_ : Nat × Nat × Nat × Nat × Nat) => ret = r) (fun u t => PoS (dC, dI) (tyL cI cJ cG cZ) (wd_LC_count cI cJ cG cZ a0 a1 a2 a0_open u.1 u.2.1 u.2.2.1 u.2.2.2.1 u.2.2.2.2 a1_near a1_tail a1_head o_v0_rest o_v0_versionSeen o_v0_restSeen o_w0_open o_n0_clash o_w0_clash o_n0_weight o_w0_weight o_n0_common o_w0_common o_n0_gain o_w0_gain o_n0_sum o_w0_sum v1_nodes v1_arcCount v1_version w1_near w2) A t) A) ([.ref a0, .ref a1, .ref a2] : List Value).toArray s mc ms A) (F0 m 107 ls []))) hm (fun k_107 z_107 ih_107 hm => ?_) _ _ _ _ _ _ _ _ rfl ls H locs (lv_sub hl [3, 4, 5, 2, 1, 0] rfl) hP hD hS
        intro x3_27 x6_28 x7_29 w0_clash_30 w0_weight_31 w0_common_32 w0_gain_33 w0_sum_34 hz ls H locs hl hP hD hS
        subst hz
        dsimp only at hm
        refine lv_iload hx hb d_LC_count_107 (lv_at hl 5 rfl) ?_
        refine lv_aload_n hx hb d_LC_count_109 rfl (lv_at hl 1 rfl) ?_
        refine va_get (D := (dC, dI)) (ci := 1) (v := .int v1_nodes) (C := R_Net) (T := T_Net) (N := 6) hx hb htt hin_Net hown hK hP 7 rfl rfl 3 (by decide) (htt _ kt_48) (fun _ h9 => h9) rfl d_LC_count_110 ?_
        refine lv_icmp_ge (tgt := 176) hx hb d_LC_count_113 (by decide) (fun c_35 => ?_) (fun c_35 => ?_)
        · have hm := ite_t c_35 hm
          refine lv_lload_n hx hb d_LC_count_176 rfl (lv_at hl 2 rfl) ?_
          cases hm
          exact W.lret hx hb hr (fun t ht hW => ⟨⟨_, (a0_clash, a0_weight, a0_common, a0_gain, a0_sum), rfl, rfl, by rw [ht]; exact hP, va_K.moved hW.alike hK, hD⟩, hS.F ht⟩) hS.2.2 d_LC_count_177
        · have hm := ite_f c_35 hm
          refine lv_iload hx hb d_LC_count_116 (lv_at hl 4 rfl) ?_
          refine lv_iload hx hb d_LC_count_118 (lv_at hl 5 rfl) ?_
          refine lv_ishr hx hb d_LC_count_120 ?_
          refine lv_iconst (v := 1) hx hb d_LC_count_121 (by decide) ?_
          refine lv_iand hx hb d_LC_count_122 ?_
          refine lv_if_eq (tgt := 170) hx hb d_LC_count_123 (by decide) (fun c_36 => ?_) (fun c_36 => ?_)
          · have hm := ite_t c_36 hm
            obtain ⟨x7_37, ex7_37⟩ : ∃ y : Int32, y = x7_29 + 1 := ⟨_, rfl⟩
            have hm := gB_at ex7_37 hm
            refine lv_iinc (v := x7_37) (lv' := [(7, .int x7_37), (0, .ref a0), (1, .ref a1), (3, .long x3_27), (5, .int s_26), (6, .int x6_28)]) hx hb d_LC_count_170 hl (k := 5) rfl (by rw [ex7_37]; rfl) (by decide) rfl (fun ls hl => ?_)
            refine lv_goto (tgt := 107) hx hb d_LC_count_173 (by decide) ?_
            exact ih_107 _ hm _ _ _ _ _ _ _ _ rfl ls H locs (lv_sub hl [1, 2, 3, 4, 5, 0] rfl) hP hD hS
          · have hm := ite_f c_36 hm
            refine lv_aload_n hx hb d_LC_count_126 rfl (lv_at hl 1 rfl) ?_
            refine lv_iconst (v := 1) hx hb d_LC_count_127 (by decide) ?_
            refine lv_iload hx hb d_LC_count_128 (lv_at hl 5 rfl) ?_
            refine lv_ishl hx hb d_LC_count_130 ?_
            refine lv_aload_n hx hb d_LC_count_131 rfl (lv_at hl 0 rfl) ?_
            refine va_get (D := (dC, dI)) (ci := 4) (v := .int v0_rest_6) (C := R_LC) (T := T_LC) (N := 9) hx hb htt hin_LC hown hK hP 0 rfl rfl 6 (by decide) (htt _ kt_152) (fun _ h9 => h9) rfl d_LC_count_132 ?_
            obtain ⟨q_38, hc_39, hm⟩ := gM_e hm
            have hPc : va_P (dC, dI) vwCl (wd_Net_partOf cI cJ cG cZ a1 a1_near a1_tail a1_head v1_nodes v1_arcCount v1_version w1_near) H := hP.sub [7, 8] rfl
            have hDc : va_D A (wd_Net_partOf cI cJ cG cZ a1 a1_near a1_tail a1_head v1_nodes v1_arcCount v1_version w1_near) := hD.sub [7, 8] (by decide) rfl
            have hFc : ∀ q, va_A (wd_Net_partOf cI cJ cG cZ a1 a1_near a1_tail a1_head v1_nodes v1_arcCount v1_version w1_near) H.size q → A q := va_free hD hS hA [7, 8] rfl
            refine va_calli (va_runV (As := [.int ((1 : Int32) <<< (x7_29 &&& 31)), .int v0_rest_6]) (rest := []) ⟨hx, hb, hml, hown, htt⟩ (c_Net_partOf l dC dI cI cJ cG cZ a1 a1_near a1_tail a1_head H.size F v1_nodes v1_arcCount v1_version w1_near ((1 : Int32) <<< (x7_29 &&& 31)) v0_rest_6 q_38 hc_39) (cwV 2 htt (gdV kt_480 kt_481 kt_482 kt_2 kt_483) rfl rfl rfl (by decide +kernel) ⟨(Nat.le_of_ble_eq_true rfl), (Nat.le_of_ble_eq_true rfl)⟩) ⟨PcS_blind, va_recv hK hPc (ci := 1) (q0 := 0) rfl rfl, PcS_in hPc hK hDc hNw⟩ rfl rfl hl.1 rfl (lv_room (Nat.le_of_ble_eq_true rfl)) d_LC_count_135 ⟨Nat.le_refl _, Nat.le_refl _⟩) hS (fun q _ h => hFc q h) hFc (fun r_40 u t H1 locs ht hvm hw hB hz1 hk1 hS => ?_)
            obtain ⟨hP1, hK1, hD1⟩ := hB
            rw [ht] at hP1
            subst hw
            obtain ⟨hP, hD⟩ := va_join (wr := [(a0, .inr (4, [.ref a0_open, .ref a0_clash, .ref a0_weight, .ref a0_common, .ref a0_gain, .ref a0_sum, .int v0_rest_6, .int v1_version, .int v0_rest_6])), (a0_open, .inl (cI, 12, .inl w0_open_7)), (a0_clash, .inl (cI, n0_clash_14, .inl w0_clash_30)), (a0_weight, .inl (cI, n0_weight_16, .inl w0_weight_31)), (a0_common, .inl (cI, n0_common_18, .inl w0_common_32)), (a0_gain, .inl (cI, n0_gain_20, .inl w0_gain_33)), (a0_sum, .inl (cJ, n0_sum_22, .inr (.inl w0_sum_34))), (a2, .inl (cI, 12, .inl w2))]) (w1 := (wd_Net_partOf cI cJ cG cZ a1 a1_near a1_tail a1_head v1_nodes v1_arcCount v1_version w1_near)) hP hD [7, 8] [0, 1, 2, 3, 4, 5, 6, 9] rfl rfl (by decide) (by decide) hk1 hFc hP1 hD1
            have hP : va_P (dC, dI) vwCl (wd_LC_count cI cJ cG cZ a0 a1 a2 a0_open a0_clash a0_weight a0_common a0_gain a0_sum a1_near a1_tail a1_head v0_rest_6 v1_version v0_rest_6 w0_open_7 n0_clash_14 w0_clash_30 n0_weight_16 w0_weight_31 n0_common_18 w0_common_32 n0_gain_20 w0_gain_33 n0_sum_22 w0_sum_34 v1_nodes v1_arcCount v1_version w1_near w2) H1 := hP.sub [0, 1, 2, 3, 4, 5, 6, 8, 9, 7] rfl
            have hD : va_D A (wd_LC_count cI cJ cG cZ a0 a1 a2 a0_open a0_clash a0_weight a0_common a0_gain a0_sum a1_near a1_tail a1_head v0_rest_6 v1_version v0_rest_6 w0_open_7 n0_clash_14 w0_clash_30 n0_weight_16 w0_weight_31 n0_common_18 w0_common_32 n0_gain_20 w0_gain_33 n0_sum_22 w0_sum_34 v1_nodes v1_arcCount v1_version w1_near w2) := hD.sub [0, 1, 2, 3, 4, 5, 6, 8, 9, 7] (by decide) rfl
            clear hP1 hK1 hD1 hk1 hPc hDc hFc ht hvm hz1
            generalize H1 = H at hP hS ⊢
            refine lv_istore (lv' := [(8, .int q_38), (0, .ref a0), (1, .ref a1), (3, .long x3_27), (5, .int s_26), (6, .int x6_28), (7, .int x7_29)]) hx hb d_LC_count_138 hl (by decide) rfl (fun ls hl => ?_)
            refine lv_iload hx hb d_LC_count_140 (lv_at hl 5 rfl) ?_
            refine lv_iload hx hb d_LC_count_142 (lv_at hl 0 rfl) ?_
            refine lv_iconst (v := (-1)) hx hb d_LC_count_144 (by decide) ?_
            refine lv_ixor hx hb d_LC_count_145 ?_
            refine lv_iand hx hb d_LC_count_146 ?_
            refine lv_topi (fun x6_41 ex6_41 => ?_)
            have hm := gB_at ex6_41 hm
            refine lv_istore (lv' := [(6, .int x6_41), (8, .int q_38), (0, .ref a0), (1, .ref a1), (3, .long x3_27), (5, .int s_26), (7, .int x7_29)]) hx hb d_LC_count_147 hl (by decide) rfl (fun ls hl => ?_)
            refine lv_iload hx hb d_LC_count_149 (lv_at hl 5 rfl) ?_
            obtain ⟨J_161, hJ_161, hm⟩ := gB_x hm
            have jp_161 : ∀ (w0_clash_42 : Nat → Int32) (w0_weight_43 : Nat → Int32) (ls : Array Slot) (H : Heap) (locs : List Loc), J_161 w0_clash_42 w0_weight_43 = some (ret, o_v0_rest, o_v0_versionSeen, o_v0_restSeen, o_w0_open, o_n0_clash, o_w0_clash, o_n0_weight, o_w0_weight, o_n0_common, o_w0_common, o_n0_gain, o_w0_gain, o_n0_sum, o_w0_sum) → lv_has ls 9 [(0, .ref a0), (1, .ref a1), (3, .long x3_27), (5, .int s_26), (6, .int x6_41), (7, .int x7_29), (8, .int q_38)] → va_P (dC, dI) vwCl (wd_LC_count cI cJ cG cZ a0 a1 a2 a0_open a0_clash a0_weight a0_common a0_gain a0_sum a1_near a1_tail a1_head v0_rest_6 v1_version v0_rest_6 w0_open_7 n0_clash_14 w0_clash_42 n0_weight_16 w0_weight_43 n0_common_18 w0_common_32 n0_gain_20 w0_gain_33 n0_sum_22 w0_sum_34 v1_nodes v1_arcCount v1_version w1_near w2) H → va_D A (wd_LC_count cI cJ cG cZ a0 a1 a2 a0_open a0_clash a0_weight a0_common a0_gain a0_sum a1_near a1_tail a1_head v0_rest_6 v1_version v0_rest_6 w0_open_7 n0_clash_14 w0_clash_42 n0_weight_16 w0_weight_43 n0_common_18 w0_common_32 n0_gain_20 w0_gain_33 n0_sum_22 w0_sum_34 v1_nodes v1_arcCount v1_version w1_near w2) → va_S A s.heap H locs → W p l e (headSpec us_LC_count (rm_LC_count mc ms)).room s m ([.ref a0, .ref a1, .ref a2] : List Value).toArray below meth c H locs mc ms (MQ below (va_Ql (fun (r : Int64) (_ : Nat × Nat × Nat × Nat × Nat) => ret = r) (fun u t => PoS (dC, dI) (tyL cI cJ cG cZ) (wd_LC_count cI cJ cG cZ a0 a1 a2 a0_open u.1 u.2.1 u.2.2.1 u.2.2.2.1 u.2.2.2.2 a1_near a1_tail a1_head o_v0_rest o_v0_versionSeen o_v0_restSeen o_w0_open o_n0_clash o_w0_clash o_n0_weight o_w0_weight o_n0_common o_w0_common o_n0_gain o_w0_gain o_n0_sum o_w0_sum v1_nodes v1_arcCount v1_version w1_near w2) A t) A) ([.ref a0, .ref a1, .ref a2] : List Value).toArray s mc ms A) (F0 m 161 ls []) := by
              intro w0_clash_42 w0_weight_43 ls H locs hm hl hP hD hS
              have hm := jn2 hJ_161 hm
              refine lv_lload_n hx hb d_LC_count_161 rfl (lv_at hl 2 rfl) ?_
              refine lv_aload_n hx hb d_LC_count_162 rfl (lv_at hl 0 rfl) ?_
              refine lv_iload hx hb d_LC_count_163 (lv_at hl 6 rfl) ?_
              obtain ⟨⟨q_44, w0_common_45, w0_gain_46, w0_sum_47⟩, hc_48, hm⟩ := gM_e hm
              dsimp only at hm
              have hPc : va_P (dC, dI) vwCl (wd_LC_countPart cI cJ cG cZ a0 a0_open a0_clash a0_weight a0_common a0_gain a0_sum v0_rest_6 v1_version v0_rest_6 w0_open_7 n0_weight_16 w0_weight_43 n0_common_18 w0_common_32 n0_gain_20 w0_gain_33 n0_sum_22 w0_sum_34) H := hP.sub [0, 1, 3, 4, 5, 6] rfl
              have hDc : va_D A (wd_LC_countPart cI cJ cG cZ a0 a0_open a0_clash a0_weight a0_common a0_gain a0_sum v0_rest_6 v1_version v0_rest_6 w0_open_7 n0_weight_16 w0_weight_43 n0_common_18 w0_common_32 n0_gain_20 w0_gain_33 n0_sum_22 w0_sum_34) := hD.sub [0, 1, 3, 4, 5, 6] (by decide) rfl
              have hFc : ∀ q, va_A (wd_LC_countPart cI cJ cG cZ a0 a0_open a0_clash a0_weight a0_common a0_gain a0_sum v0_rest_6 v1_version v0_rest_6 w0_open_7 n0_weight_16 w0_weight_43 n0_common_18 w0_common_32 n0_gain_20 w0_gain_33 n0_sum_22 w0_sum_34) H.size q → A q := va_free hD hS hA [0, 1, 3, 4, 5, 6] rfl
              refine va_calll (va_runV (As := [.int q_38]) (rest := [.long x3_27]) ⟨hx, hb, hml, hown, htt⟩ (c_LC_countPart l dC dI cI cJ cG cZ a0 a0_open a0_clash a0_weight a0_common a0_gain a0_sum H.size F v0_rest_6 v1_version v0_rest_6 w0_open_7 n0_weight_16 w0_weight_43 n0_common_18 w0_common_32 n0_gain_20 w0_gain_33 n0_sum_22 w0_sum_34 q_38 q_44 w0_common_45 w0_gain_46 w0_sum_47 hc_48) (cwV 1 htt (gdV kt_501 kt_503 kp_28 kt_5 kt_504) rfl rfl rfl (by decide +kernel) ⟨(Nat.le_of_ble_eq_true rfl), (Nat.le_of_ble_eq_true rfl)⟩) ⟨PcS_blind, va_recv hK hPc (ci := 4) (q0 := 0) rfl rfl, PcS_in hPc hK hDc hNw⟩ rfl rfl hl.1 rfl (lv_room (Nat.le_of_ble_eq_true rfl)) d_LC_count_165 ⟨Nat.le_refl _, Nat.le_refl _⟩) hS (fun q _ h => hFc q h) hFc (fun r_50 u t H1 locs ht hvm hw hB hz1 hk1 hS => ?_)
              obtain ⟨hP1, hK1, hD1⟩ := hB
              rw [ht] at hP1
              subst hw
              obtain ⟨hP, hD⟩ := va_join (wr := [(a0_clash, .inl (cI, n0_clash_14, .inl w0_clash_42)), (a1, .inr (1, [.ref a1_near, .ref a1_tail, .ref a1_head, .int v1_nodes, .int v1_arcCount, .int v1_version])), (a1_near, .inl (cI, 12, .inl w1_near)), (a2, .inl (cI, 12, .inl w2))]) (w1 := (wd_LC_countPart cI cJ cG cZ a0 a0_open a0_clash a0_weight a0_common a0_gain a0_sum v0_rest_6 v1_version v0_rest_6 w0_open_7 n0_weight_16 w0_weight_43 n0_common_18 w0_common_45 n0_gain_20 w0_gain_46 n0_sum_22 w0_sum_47)) hP hD [0, 1, 3, 4, 5, 6] [2, 7, 8, 9] rfl rfl (by decide) (by decide) hk1 hFc hP1 hD1
              have hP : va_P (dC, dI) vwCl (wd_LC_count cI cJ cG cZ a0 a1 a2 a0_open a0_clash a0_weight a0_common a0_gain a0_sum a1_near a1_tail a1_head v0_rest_6 v1_version v0_rest_6 w0_open_7 n0_clash_14 w0_clash_42 n0_weight_16 w0_weight_43 n0_common_18 w0_common_45 n0_gain_20 w0_gain_46 n0_sum_22 w0_sum_47 v1_nodes v1_arcCount v1_version w1_near w2) H1 := hP.sub [4, 5, 0, 6, 7, 8, 9, 1, 2, 3] rfl
              have hD : va_D A (wd_LC_count cI cJ cG cZ a0 a1 a2 a0_open a0_clash a0_weight a0_common a0_gain a0_sum a1_near a1_tail a1_head v0_rest_6 v1_version v0_rest_6 w0_open_7 n0_clash_14 w0_clash_42 n0_weight_16 w0_weight_43 n0_common_18 w0_common_45 n0_gain_20 w0_gain_46 n0_sum_22 w0_sum_47 v1_nodes v1_arcCount v1_version w1_near w2) := hD.sub [4, 5, 0, 6, 7, 8, 9, 1, 2, 3] (by decide) rfl
              clear hP1 hK1 hD1 hk1 hPc hDc hFc ht hvm hz1
              generalize H1 = H at hP hS ⊢
              refine lv_lmul hx hb d_LC_count_168 ?_
              refine lv_topl (fun x3_51 ex3_51 => ?_)
              have hm := gB_at ex3_51 hm
              refine lv_lstore_n (lv' := [(3, .long x3_51), (0, .ref a0), (1, .ref a1), (5, .int s_26), (6, .int x6_41), (7, .int x7_29), (8, .int q_38)]) hx hb d_LC_count_169 rfl hl (by decide) rfl (fun ls hl => ?_)
              obtain ⟨x7_52, ex7_52⟩ : ∃ y : Int32, y = x7_29 + 1 := ⟨_, rfl⟩
              have hm := gB_at ex7_52 hm
              refine lv_iinc (v := x7_52) (lv' := [(7, .int x7_52), (3, .long x3_51), (0, .ref a0), (1, .ref a1), (5, .int s_26), (6, .int x6_41), (8, .int q_38)]) hx hb d_LC_count_170 hl (k := 5) rfl (by rw [ex7_52]; rfl) (by decide) rfl (fun ls hl => ?_)
              refine lv_goto (tgt := 107) hx hb d_LC_count_173 (by decide) ?_
              exact ih_107 _ hm _ _ _ _ _ _ _ _ rfl ls H locs (lv_sub hl [2, 3, 1, 4, 5, 0] rfl) hP hD hS
            clear hJ_161
            refine lv_if_ne (tgt := 161) hx hb d_LC_count_151 (by decide) (fun c_53 => ?_) (fun c_53 => ?_)
            · have hm := ite_f c_53 hm
              exact jp_161 _ _ ls H locs hm (lv_sub hl [2, 3, 4, 5, 0, 6, 1] rfl) hP hD hS
            · have hm := ite_t c_53 hm
              refine lv_aload_n hx hb d_LC_count_154 rfl (lv_at hl 2 rfl) ?_
              refine lv_aload_n hx hb d_LC_count_155 rfl (lv_at hl 3 rfl) ?_
              refine lv_iload hx hb d_LC_count_156 (lv_at hl 1 rfl) ?_
              obtain ⟨⟨w0_clash_54, w0_weight_55⟩, hc_56, hm⟩ := gM_e hm
              dsimp only at hm
              have hPc : va_P (dC, dI) vwCl (wd_LC_weighSetsOf cI cJ cG cZ a0 a1 a0_open a0_clash a0_weight a0_common a0_gain a0_sum a1_near a1_tail a1_head v0_rest_6 v1_version v0_rest_6 n0_clash_14 w0_clash_30 n0_weight_16 w0_weight_31 v1_nodes v1_arcCount v1_version w1_near) H := hP.sub [0, 2, 3, 7, 8] rfl
              have hDc : va_D A (wd_LC_weighSetsOf cI cJ cG cZ a0 a1 a0_open a0_clash a0_weight a0_common a0_gain a0_sum a1_near a1_tail a1_head v0_rest_6 v1_version v0_rest_6 n0_clash_14 w0_clash_30 n0_weight_16 w0_weight_31 v1_nodes v1_arcCount v1_version w1_near) := hD.sub [0, 2, 3, 7, 8] (by decide) rfl
              have hFc : ∀ q, va_A (wd_LC_weighSetsOf cI cJ cG cZ a0 a1 a0_open a0_clash a0_weight a0_common a0_gain a0_sum a1_near a1_tail a1_head v0_rest_6 v1_version v0_rest_6 n0_clash_14 w0_clash_30 n0_weight_16 w0_weight_31 v1_nodes v1_arcCount v1_version w1_near) H.size q → A q := va_free hD hS hA [0, 2, 3, 7, 8] rfl
              refine va_callv (va_runV (As := [.ref a1, .int q_38]) (rest := []) ⟨hx, hb, hml, hown, htt⟩ (c_LC_weighSetsOf l dC dI cI cJ cG cZ a0 a1 a0_open a0_clash a0_weight a0_common a0_gain a0_sum a1_near a1_tail a1_head H.size F v0_rest_6 v1_version v0_rest_6 n0_clash_14 w0_clash_30 n0_weight_16 w0_weight_31 v1_nodes v1_arcCount v1_version w1_near q_38 w0_clash_54 w0_weight_55 hc_56) (cwV 2 htt (gdV kt_484 kt_486 kp_24 kt_5 kt_487) rfl rfl rfl (by decide +kernel) ⟨(Nat.le_of_ble_eq_true rfl), (Nat.le_of_ble_eq_true rfl)⟩) ⟨PcS_blind, va_recv hK hPc (ci := 4) (q0 := 0) rfl rfl, PcS_in hPc hK hDc hNw⟩ rfl rfl hl.1 rfl (lv_room (Nat.le_of_ble_eq_true rfl)) d_LC_count_158 ⟨Nat.le_refl _, Nat.le_refl _⟩) hS (fun q _ h => hFc q h) hFc (fun u t H1 locs ht hvm hw hB hz1 hk1 hS => ?_)
              obtain ⟨hP1, hK1, hD1⟩ := hB
              rw [ht] at hP1
              obtain ⟨hP, hD⟩ := va_join (wr := [(a0_open, .inl (cI, 12, .inl w0_open_7)), (a0_common, .inl (cI, n0_common_18, .inl w0_common_32)), (a0_gain, .inl (cI, n0_gain_20, .inl w0_gain_33)), (a0_sum, .inl (cJ, n0_sum_22, .inr (.inl w0_sum_34))), (a2, .inl (cI, 12, .inl w2))]) (w1 := (wd_LC_weighSetsOf cI cJ cG cZ a0 a1 a0_open a0_clash a0_weight a0_common a0_gain a0_sum a1_near a1_tail a1_head v0_rest_6 v1_version v0_rest_6 n0_clash_14 w0_clash_54 n0_weight_16 w0_weight_55 v1_nodes v1_arcCount v1_version w1_near)) hP hD [0, 2, 3, 7, 8] [1, 4, 5, 6, 9] rfl rfl (by decide) (by decide) hk1 hFc hP1 hD1
              have hP : va_P (dC, dI) vwCl (wd_LC_count cI cJ cG cZ a0 a1 a2 a0_open a0_clash a0_weight a0_common a0_gain a0_sum a1_near a1_tail a1_head v0_rest_6 v1_version v0_rest_6 w0_open_7 n0_clash_14 w0_clash_54 n0_weight_16 w0_weight_55 n0_common_18 w0_common_32 n0_gain_20 w0_gain_33 n0_sum_22 w0_sum_34 v1_nodes v1_arcCount v1_version w1_near w2) H1 := hP.sub [5, 0, 6, 7, 1, 2, 3, 8, 9, 4] rfl
              have hD : va_D A (wd_LC_count cI cJ cG cZ a0 a1 a2 a0_open a0_clash a0_weight a0_common a0_gain a0_sum a1_near a1_tail a1_head v0_rest_6 v1_version v0_rest_6 w0_open_7 n0_clash_14 w0_clash_54 n0_weight_16 w0_weight_55 n0_common_18 w0_common_32 n0_gain_20 w0_gain_33 n0_sum_22 w0_sum_34 v1_nodes v1_arcCount v1_version w1_near w2) := hD.sub [5, 0, 6, 7, 1, 2, 3, 8, 9, 4] (by decide) rfl
              clear hP1 hK1 hD1 hk1 hPc hDc hFc ht hvm hz1
              generalize H1 = H at hP hS ⊢
              exact jp_161 _ _ ls H locs hm (lv_sub hl [2, 3, 4, 5, 0, 6, 1] rfl) hP hD hS
      clear hJ_80
      obtain ⟨J_79, hJ_79, hm⟩ := gB_x hm
      have jp_79 : ∀ (ls : Array Slot) (H : Heap) (locs : List Loc), J_79 = some (ret, o_v0_rest, o_v0_versionSeen, o_v0_restSeen, o_w0_open, o_n0_clash, o_w0_clash, o_n0_weight, o_w0_weight, o_n0_common, o_w0_common, o_n0_gain, o_w0_gain, o_n0_sum, o_w0_sum) → lv_has ls 9 [(0, .ref a0), (1, .ref a1), (3, .long q_5)] → va_P (dC, dI) vwCl (wd_LC_count cI cJ cG cZ a0 a1 a2 a0_open a0_clash a0_weight a0_common a0_gain a0_sum a1_near a1_tail a1_head v0_rest_6 v0_versionSeen_13 v0_restSeen w0_open_7 n0_clash_14 w0_clash_15 n0_weight_16 w0_weight_17 n0_common_18 w0_common_19 n0_gain_20 w0_gain_21 n0_sum_22 w0_sum_23 v1_nodes v1_arcCount v1_version w1_near w2) H → va_D A (wd_LC_count cI cJ cG cZ a0 a1 a2 a0_open a0_clash a0_weight a0_common a0_gain a0_sum a1_near a1_tail a1_head v0_rest_6 v0_versionSeen_13 v0_restSeen w0_open_7 n0_clash_14 w0_clash_15 n0_weight_16 w0_weight_17 n0_common_18 w0_common_19 n0_gain_20 w0_gain_21 n0_sum_22 w0_sum_23 v1_nodes v1_arcCount v1_version w1_near w2) → va_S A s.heap H locs → W p l e (headSpec us_LC_count (rm_LC_count mc ms)).room s m ([.ref a0, .ref a1, .ref a2] : List Value).toArray below meth c H locs mc ms (MQ below (va_Ql (fun (r : Int64) (_ : Nat × Nat × Nat × Nat × Nat) => ret = r) (fun u t => PoS (dC, dI) (tyL cI cJ cG cZ) (wd_LC_count cI cJ cG cZ a0 a1 a2 a0_open u.1 u.2.1 u.2.2.1 u.2.2.2.1 u.2.2.2.2 a1_near a1_tail a1_head o_v0_rest o_v0_versionSeen o_v0_restSeen o_w0_open o_n0_clash o_w0_clash o_n0_weight o_w0_weight o_n0_common o_w0_common o_n0_gain o_w0_gain o_n0_sum o_w0_sum v1_nodes v1_arcCount v1_version w1_near w2) A t) A) ([.ref a0, .ref a1, .ref a2] : List Value).toArray s mc ms A) (F0 m 79 ls []) := by
        intro ls H locs hm hl hP hD hS
        have hm := jn0 hJ_79 hm
        refine lv_iconst (v := 0) hx hb d_LC_count_79 (by decide) ?_
        exact jp_80 _ ls H locs hm (lv_sub hl [0, 1, 2] rfl) hP hD hS
      clear hJ_79
      refine lv_icmp_ne (tgt := 79) hx hb d_LC_count_61 (by decide) (fun c_58 => ?_) (fun c_58 => ?_)
      · have hm := ite_f c_58 hm
        exact jp_79 ls H locs hm (lv_sub hl [1, 2, 0] rfl) hP hD hS
      · have hm := ite_t c_58 hm
        refine lv_aload_n hx hb d_LC_count_64 rfl (lv_at hl 1 rfl) ?_
        refine va_get (D := (dC, dI)) (ci := 4) (v := .int v0_restSeen) (C := R_LC) (T := T_LC) (N := 9) hx hb htt hin_LC hown hK hP 0 rfl rfl 8 (by decide) (htt _ kt_154) (fun _ h9 => h9) rfl d_LC_count_65 ?_
        refine lv_aload_n hx hb d_LC_count_68 rfl (lv_at hl 1 rfl) ?_
        refine va_get (D := (dC, dI)) (ci := 4) (v := .int v0_rest_6) (C := R_LC) (T := T_LC) (N := 9) hx hb htt hin_LC hown hK hP 0 rfl rfl 6 (by decide) (htt _ kt_152) (fun _ h9 => h9) rfl d_LC_count_69 ?_
        refine lv_icmp_ne (tgt := 79) hx hb d_LC_count_72 (by decide) (fun c_59 => ?_) (fun c_59 => ?_)
        · have hm := ite_f c_59 hm
          exact jp_79 ls H locs hm (lv_sub hl [1, 2, 0] rfl) hP hD hS
        · have hm := ite_t c_59 hm
          refine lv_iconst (v := 1) hx hb d_LC_count_75 (by decide) ?_
          refine lv_goto (tgt := 80) hx hb d_LC_count_76 (by decide) ?_
          exact jp_80 _ ls H locs hm (lv_sub hl [1, 2, 0] rfl) hP hD hS
    · have hm := ite_t c_12 hm
      refine lv_lload_n hx hb d_LC_count_41 rfl (lv_at hl 0 rfl) ?_
      cases hm
      refine W.widen (k := mc) (n := ms) (Nat.zero_le _) (Nat.zero_le _) ?_
      exact W.lret hx hb hr (fun t ht hW => ⟨⟨_, (a0_clash, a0_weight, a0_common, a0_gain, a0_sum), rfl, rfl, by rw [ht]; exact hP, va_K.moved hW.alike hK, hD⟩, hS.F ht⟩) hS.2.2 d_LC_count_42
theorem d_CS_listed_0 : decode prog_1_method_12_code 0 = .ok (.aload_n 0, 1) := by decide +kernel
theorem d_CS_listed_1 : decode prog_1_method_12_code 1 = .ok (.getfield 33, 3) := by decide +kernel
theorem d_CS_listed_4 : decode prog_1_method_12_code 4 = .ok (.aload_n 0, 1) := by decide +kernel
theorem d_CS_listed_5 : decode prog_1_method_12_code 5 = .ok (.getfield 12, 3) := by decide +kernel
theorem d_CS_listed_8 : decode prog_1_method_12_code 8 = .ok (.aload_n 0, 1) := by decide +kernel
theorem d_CS_listed_9 : decode prog_1_method_12_code 9 = .ok (.getfield 58, 3) := by decide +kernel
theorem d_CS_listed_12 : decode prog_1_method_12_code 12 = .ok (.invokevirtual 134, 3) := by decide +kernel
theorem d_CS_listed_15 : decode prog_1_method_12_code 15 = .ok (.lreturn, 1) := by decide +kernel
abbrev wd_CS_listed (cI cJ cG cZ : ClassId) (a0 a0_net a0_painter a0_polynomial a0_listCounter a0_setFinder a0_takingApart a0_greedyRun a0_allowed a0_shown a0_shades a0_attempt a0_net_near a0_net_tail a0_net_head a0_listCounter_open a0_listCounter_clash a0_listCounter_weight a0_listCounter_common a0_listCounter_gain a0_listCounter_sum : Nat) (v0_net_nodes : Int32) (v0_net_arcCount : Int32) (v0_net_version : Int32) (w0_net_near : Nat → Int32) (v0_listCounter_rest : Int32) (v0_listCounter_versionSeen : Int32) (v0_listCounter_restSeen : Int32) (w0_listCounter_open : Nat → Int32) (n0_listCounter_clash : Nat) (w0_listCounter_clash : Nat → Int32) (n0_listCounter_weight : Nat) (w0_listCounter_weight : Nat → Int32) (n0_listCounter_common : Nat) (w0_listCounter_common : Nat → Int32) (n0_listCounter_gain : Nat) (w0_listCounter_gain : Nat → Int32) (n0_listCounter_sum : Nat) (w0_listCounter_sum : Nat → Int64) (w0_allowed : Nat → Int32) : va_W := [(a0, .inr (0, [.ref a0_net, .ref a0_painter, .ref a0_polynomial, .ref a0_listCounter, .ref a0_setFinder, .ref a0_takingApart, .ref a0_greedyRun, .ref a0_allowed, .ref a0_shown, .ref a0_shades, .ref a0_attempt])), (a0_net, .inr (1, [.ref a0_net_near, .ref a0_net_tail, .ref a0_net_head, .int v0_net_nodes, .int v0_net_arcCount, .int v0_net_version])), (a0_net_near, .inl (cI, 12, .inl w0_net_near)), (a0_listCounter, .inr (4, [.ref a0_listCounter_open, .ref a0_listCounter_clash, .ref a0_listCounter_weight, .ref a0_listCounter_common, .ref a0_listCounter_gain, .ref a0_listCounter_sum, .int v0_listCounter_rest, .int v0_listCounter_versionSeen, .int v0_listCounter_restSeen])), (a0_listCounter_open, .inl (cI, 12, .inl w0_listCounter_open)), (a0_listCounter_clash, .inl (cI, n0_listCounter_clash, .inl w0_listCounter_clash)), (a0_listCounter_weight, .inl (cI, n0_listCounter_weight, .inl w0_listCounter_weight)), (a0_listCounter_common, .inl (cI, n0_listCounter_common, .inl w0_listCounter_common)), (a0_listCounter_gain, .inl (cI, n0_listCounter_gain, .inl w0_listCounter_gain)), (a0_listCounter_sum, .inl (cJ, n0_listCounter_sum, .inr (.inl w0_listCounter_sum))), (a0_allowed, .inl (cI, 12, .inl w0_allowed))]
abbrev us_CS_listed : List Cond := .code y_CS_listed prog_1_method_12_code 1 (some .long) :: gtbl
abbrev rm_CS_listed (mc ms : Nat) : Room := { frames := 5, cells := mc, slots := ms, locals := 117 }
def m_CS_listed (F : Nat) (v0_net_nodes : Int32) (v0_net_arcCount : Int32) (v0_net_version : Int32) (w0_net_near : Nat → Int32) (v0_listCounter_rest : Int32) (v0_listCounter_versionSeen : Int32) (v0_listCounter_restSeen : Int32) (w0_listCounter_open : Nat → Int32) (n0_listCounter_clash : Nat) (w0_listCounter_clash : Nat → Int32) (n0_listCounter_weight : Nat) (w0_listCounter_weight : Nat → Int32) (n0_listCounter_common : Nat) (w0_listCounter_common : Nat → Int32) (n0_listCounter_gain : Nat) (w0_listCounter_gain : Nat → Int32) (n0_listCounter_sum : Nat) (w0_listCounter_sum : Nat → Int64) (w0_allowed : Nat → Int32) : Option (Int64 × Int32 × Int32 × Int32 × (Nat → Int32) × Nat × (Nat → Int32) × Nat × (Nat → Int32) × Nat × (Nat → Int32) × Nat × (Nat → Int32) × Nat × (Nat → Int64)) :=
  gM (m_LC_count F v0_listCounter_rest v0_listCounter_versionSeen v0_listCounter_restSeen w0_listCounter_open n0_listCounter_clash w0_listCounter_clash n0_listCounter_weight w0_listCounter_weight n0_listCounter_common w0_listCounter_common n0_listCounter_gain w0_listCounter_gain n0_listCounter_sum w0_listCounter_sum v0_net_nodes v0_net_arcCount v0_net_version w0_net_near w0_allowed) (fun (z_17 : Int64 × Int32 × Int32 × Int32 × (Nat → Int32) × Nat × (Nat → Int32) × Nat × (Nat → Int32) × Nat × (Nat → Int32) × Nat × (Nat → Int32) × Nat × (Nat → Int64)) => match z_17 with
  | (q_1, v0_listCounter_rest_2, v0_listCounter_versionSeen_3, v0_listCounter_restSeen_4, w0_listCounter_open_5, n0_listCounter_clash_6, w0_listCounter_clash_7, n0_listCounter_weight_8, w0_listCounter_weight_9, n0_listCounter_common_10, w0_listCounter_common_11, n0_listCounter_gain_12, w0_listCounter_gain_13, n0_listCounter_sum_14, w0_listCounter_sum_15) =>
  some (q_1, v0_listCounter_rest_2, v0_listCounter_versionSeen_3, v0_listCounter_restSeen_4, w0_listCounter_open_5, n0_listCounter_clash_6, w0_listCounter_clash_7, n0_listCounter_weight_8, w0_listCounter_weight_9, n0_listCounter_common_10, w0_listCounter_common_11, n0_listCounter_gain_12, w0_listCounter_gain_13, n0_listCounter_sum_14, w0_listCounter_sum_15))
set_option maxHeartbeats 4000000 in
set_option maxRecDepth 100000 in
theorem c_CS_listed (l : Launch) (dC : Nat → ClassId) (dI : Nat → Nat → Nat) (cI cJ cG cZ : ClassId) (a0 a0_net a0_painter a0_polynomial a0_listCounter a0_setFinder a0_takingApart a0_greedyRun a0_allowed a0_shown a0_shades a0_attempt a0_net_near a0_net_tail a0_net_head a0_listCounter_open a0_listCounter_clash a0_listCounter_weight a0_listCounter_common a0_listCounter_gain a0_listCounter_sum : Nat) (sz : Nat) (F : Nat) (v0_net_nodes : Int32) (v0_net_arcCount : Int32) (v0_net_version : Int32) (w0_net_near : Nat → Int32) (v0_listCounter_rest : Int32) (v0_listCounter_versionSeen : Int32) (v0_listCounter_restSeen : Int32) (w0_listCounter_open : Nat → Int32) (n0_listCounter_clash : Nat) (w0_listCounter_clash : Nat → Int32) (n0_listCounter_weight : Nat) (w0_listCounter_weight : Nat → Int32) (n0_listCounter_common : Nat) (w0_listCounter_common : Nat → Int32) (n0_listCounter_gain : Nat) (w0_listCounter_gain : Nat → Int32) (n0_listCounter_sum : Nat) (w0_listCounter_sum : Nat → Int64) (w0_allowed : Nat → Int32) (ret : Int64) (o_v0_listCounter_rest : Int32) (o_v0_listCounter_versionSeen : Int32) (o_v0_listCounter_restSeen : Int32) (o_w0_listCounter_open : Nat → Int32) (o_n0_listCounter_clash : Nat) (o_w0_listCounter_clash : Nat → Int32) (o_n0_listCounter_weight : Nat) (o_w0_listCounter_weight : Nat → Int32) (o_n0_listCounter_common : Nat) (o_w0_listCounter_common : Nat → Int32) (o_n0_listCounter_gain : Nat) (o_w0_listCounter_gain : Nat → Int32) (o_n0_listCounter_sum : Nat) (o_w0_listCounter_sum : Nat → Int64) (hm : m_CS_listed F v0_net_nodes v0_net_arcCount v0_net_version w0_net_near v0_listCounter_rest v0_listCounter_versionSeen v0_listCounter_restSeen w0_listCounter_open n0_listCounter_clash w0_listCounter_clash n0_listCounter_weight w0_listCounter_weight n0_listCounter_common w0_listCounter_common n0_listCounter_gain w0_listCounter_gain n0_listCounter_sum w0_listCounter_sum w0_allowed = some (ret, o_v0_listCounter_rest, o_v0_listCounter_versionSeen, o_v0_listCounter_restSeen, o_w0_listCounter_open, o_n0_listCounter_clash, o_w0_listCounter_clash, o_n0_listCounter_weight, o_w0_listCounter_weight, o_n0_listCounter_common, o_w0_listCounter_common, o_n0_listCounter_gain, o_w0_listCounter_gain, o_n0_listCounter_sum, o_w0_listCounter_sum)) (mc ms : Nat) (hg : ¬ ((1 : Int32) <<< (v0_net_nodes &&& 31)) ≤ nI n0_listCounter_weight → ¬ ((1 : Int32) <<< (v0_net_nodes &&& 31)) ≤ 0 → 5 ≤ mc ∧ 5 * ((1 : Int32) <<< (v0_net_nodes &&& 31)).toNatClampNeg ≤ ms) : Met l y_CS_listed us_CS_listed (rm_CS_listed mc ms) (PcS (dC, dI) (tyL cI cJ cG cZ) [.ref a0] sz (wd_CS_listed cI cJ cG cZ a0 a0_net a0_painter a0_polynomial a0_listCounter a0_setFinder a0_takingApart a0_greedyRun a0_allowed a0_shown a0_shades a0_attempt a0_net_near a0_net_tail a0_net_head a0_listCounter_open a0_listCounter_clash a0_listCounter_weight a0_listCounter_common a0_listCounter_gain a0_listCounter_sum v0_net_nodes v0_net_arcCount v0_net_version w0_net_near v0_listCounter_rest v0_listCounter_versionSeen v0_listCounter_restSeen w0_listCounter_open n0_listCounter_clash w0_listCounter_clash n0_listCounter_weight w0_listCounter_weight n0_listCounter_common w0_listCounter_common n0_listCounter_gain w0_listCounter_gain n0_listCounter_sum w0_listCounter_sum w0_allowed)) (va_Ql (fun (r : Int64) (_ : Nat × Nat × Nat × Nat × Nat) => ret = r) (fun u t => PoS (dC, dI) (tyL cI cJ cG cZ) (wd_CS_listed cI cJ cG cZ a0 a0_net a0_painter a0_polynomial a0_listCounter a0_setFinder a0_takingApart a0_greedyRun a0_allowed a0_shown a0_shades a0_attempt a0_net_near a0_net_tail a0_net_head a0_listCounter_open u.1 u.2.1 u.2.2.1 u.2.2.2.1 u.2.2.2.2 v0_net_nodes v0_net_arcCount v0_net_version w0_net_near o_v0_listCounter_rest o_v0_listCounter_versionSeen o_v0_listCounter_restSeen o_w0_listCounter_open o_n0_listCounter_clash o_w0_listCounter_clash o_n0_listCounter_weight o_w0_listCounter_weight o_n0_listCounter_common o_w0_listCounter_common o_n0_listCounter_gain o_w0_listCounter_gain o_n0_listCounter_sum o_w0_listCounter_sum w0_allowed) (va_A (wd_CS_listed cI cJ cG cZ a0 a0_net a0_painter a0_polynomial a0_listCounter a0_setFinder a0_takingApart a0_greedyRun a0_allowed a0_shown a0_shades a0_attempt a0_net_near a0_net_tail a0_net_head a0_listCounter_open a0_listCounter_clash a0_listCounter_weight a0_listCounter_common a0_listCounter_gain a0_listCounter_sum v0_net_nodes v0_net_arcCount v0_net_version w0_net_near v0_listCounter_rest v0_listCounter_versionSeen v0_listCounter_restSeen w0_listCounter_open n0_listCounter_clash w0_listCounter_clash n0_listCounter_weight w0_listCounter_weight n0_listCounter_common w0_listCounter_common n0_listCounter_gain w0_listCounter_gain n0_listCounter_sum w0_listCounter_sum w0_allowed) sz) t) (va_A (wd_CS_listed cI cJ cG cZ a0 a0_net a0_painter a0_polynomial a0_listCounter a0_setFinder a0_takingApart a0_greedyRun a0_allowed a0_shown a0_shades a0_attempt a0_net_near a0_net_tail a0_net_head a0_listCounter_open a0_listCounter_clash a0_listCounter_weight a0_listCounter_common a0_listCounter_gain a0_listCounter_sum v0_net_nodes v0_net_arcCount v0_net_version w0_net_near v0_listCounter_rest v0_listCounter_versionSeen v0_listCounter_restSeen w0_listCounter_open n0_listCounter_clash w0_listCounter_clash n0_listCounter_weight w0_listCounter_weight n0_listCounter_common w0_listCounter_common n0_listCounter_gain w0_listCounter_gain n0_listCounter_sum w0_listCounter_sum w0_allowed) sz)) mc ms (va_A (wd_CS_listed cI cJ cG cZ a0 a0_net a0_painter a0_polynomial a0_listCounter a0_setFinder a0_takingApart a0_greedyRun a0_allowed a0_shown a0_shades a0_attempt a0_net_near a0_net_tail a0_net_head a0_listCounter_open a0_listCounter_clash a0_listCounter_weight a0_listCounter_common a0_listCounter_gain a0_listCounter_sum v0_net_nodes v0_net_arcCount v0_net_version w0_net_near v0_listCounter_rest v0_listCounter_versionSeen v0_listCounter_restSeen w0_listCounter_open n0_listCounter_clash w0_listCounter_clash n0_listCounter_weight w0_listCounter_weight n0_listCounter_common w0_listCounter_common n0_listCounter_gain w0_listCounter_gain n0_listCounter_sum w0_listCounter_sum w0_allowed) sz) := by
  refine Met.ofW (cc := prog_1_method_12_code) (maxL := 1) (ret := (some .long)) (by decide) rfl ?_
  intro p e s m args below meth c s₁ B hml hv
  obtain ⟨rfl, hsz, hP, hK, hD0, hNw⟩ := hv
  have hx := B.exec
  have hb := B.bytes
  have hr := B.returns
  have htt : ∀ w ∈ gtbl, w.before _ s = true := fun w h => atoms_spec (ws := us_CS_listed) B.pre w (List.mem_cons_of_mem _ h)
  have hown : s.vm.findClass R_CS = some m.cls := findClass_of_methodNamed B.named
  have hlocks := B.notSynchronized
  subst hsz
  have hD := hD0.self (sz := s.heap.size)
  generalize hAe : va_A (wd_CS_listed cI cJ cG cZ a0 a0_net a0_painter a0_polynomial a0_listCounter a0_setFinder a0_takingApart a0_greedyRun a0_allowed a0_shown a0_shades a0_attempt a0_net_near a0_net_tail a0_net_head a0_listCounter_open a0_listCounter_clash a0_listCounter_weight a0_listCounter_common a0_listCounter_gain a0_listCounter_sum v0_net_nodes v0_net_arcCount v0_net_version w0_net_near v0_listCounter_rest v0_listCounter_versionSeen v0_listCounter_restSeen w0_listCounter_open n0_listCounter_clash w0_listCounter_clash n0_listCounter_weight w0_listCounter_weight n0_listCounter_common w0_listCounter_common n0_listCounter_gain w0_listCounter_gain n0_listCounter_sum w0_listCounter_sum w0_allowed) s.heap.size = A at hD ⊢
  have hA : ∀ q : Nat, s.heap.size ≤ q → A q := fun q h => by rw [← hAe]; exact Or.inr h
  clear hAe hD0
  have hS : va_S A s.heap s.heap [] := va_S.rf
  have hl := lv_entry ([.ref a0]) (n := 1) (Nat.le_of_ble_eq_true rfl)
  rw [lg_entry_eq]
  generalize (lg_sl ([.ref a0]) ++ List.replicate (1 - (lg_sl ([.ref a0])).length) Slot.unset).toArray = ls at hl ⊢
  have hl : lv_has ls 1 [(0, .ref a0)] := hl
  generalize hH : s.heap = H at hP ⊢
  have hS : va_S A s.heap H [] := hH ▸ hS
  generalize hLo : ([] : List Loc) = locs at hS ⊢
  clear hH hLo
  unfold m_CS_listed at hm
  refine lv_aload_n hx hb d_CS_listed_0 rfl (lv_at hl 0 rfl) ?_
  refine va_get (D := (dC, dI)) (ci := 0) (v := .ref a0_listCounter) (C := R_CS) (T := T_CS) (N := 11) hx hb htt hin_CS hown hK hP 0 rfl rfl 3 (by decide) (htt _ kt_227) (fun _ h9 => h9) rfl d_CS_listed_1 ?_
  refine lv_aload_n hx hb d_CS_listed_4 rfl (lv_at hl 0 rfl) ?_
  refine va_get (D := (dC, dI)) (ci := 0) (v := .ref a0_net) (C := R_CS) (T := T_CS) (N := 11) hx hb htt hin_CS hown hK hP 0 rfl rfl 0 (by decide) (htt _ kt_224) (fun _ h9 => h9) rfl d_CS_listed_5 ?_
  refine lv_aload_n hx hb d_CS_listed_8 rfl (lv_at hl 0 rfl) ?_
  refine va_get (D := (dC, dI)) (ci := 0) (v := .ref a0_allowed) (C := R_CS) (T := T_CS) (N := 11) hx hb htt hin_CS hown hK hP 0 rfl rfl 7 (by decide) (htt _ kt_231) (fun _ h9 => h9) rfl d_CS_listed_9 ?_
  obtain ⟨⟨q_1, v0_listCounter_rest_2, v0_listCounter_versionSeen_3, v0_listCounter_restSeen_4, w0_listCounter_open_5, n0_listCounter_clash_6, w0_listCounter_clash_7, n0_listCounter_weight_8, w0_listCounter_weight_9, n0_listCounter_common_10, w0_listCounter_common_11, n0_listCounter_gain_12, w0_listCounter_gain_13, n0_listCounter_sum_14, w0_listCounter_sum_15⟩, hc_16, hm⟩ := gM_e hm
  dsimp only at hm
  have hPc : va_P (dC, dI) vwCl (wd_LC_count cI cJ cG cZ a0_listCounter a0_net a0_allowed a0_listCounter_open a0_listCounter_clash a0_listCounter_weight a0_listCounter_common a0_listCounter_gain a0_listCounter_sum a0_net_near a0_net_tail a0_net_head v0_listCounter_rest v0_listCounter_versionSeen v0_listCounter_restSeen w0_listCounter_open n0_listCounter_clash w0_listCounter_clash n0_listCounter_weight w0_listCounter_weight n0_listCounter_common w0_listCounter_common n0_listCounter_gain w0_listCounter_gain n0_listCounter_sum w0_listCounter_sum v0_net_nodes v0_net_arcCount v0_net_version w0_net_near w0_allowed) H := hP.sub [3, 4, 5, 6, 7, 8, 9, 1, 2, 10] rfl
  have hDc : va_D A (wd_LC_count cI cJ cG cZ a0_listCounter a0_net a0_allowed a0_listCounter_open a0_listCounter_clash a0_listCounter_weight a0_listCounter_common a0_listCounter_gain a0_listCounter_sum a0_net_near a0_net_tail a0_net_head v0_listCounter_rest v0_listCounter_versionSeen v0_listCounter_restSeen w0_listCounter_open n0_listCounter_clash w0_listCounter_clash n0_listCounter_weight w0_listCounter_weight n0_listCounter_common w0_listCounter_common n0_listCounter_gain w0_listCounter_gain n0_listCounter_sum w0_listCounter_sum v0_net_nodes v0_net_arcCount v0_net_version w0_net_near w0_allowed) := hD.sub [3, 4, 5, 6, 7, 8, 9, 1, 2, 10] (by decide) rfl
  have hFc : ∀ q, va_A (wd_LC_count cI cJ cG cZ a0_listCounter a0_net a0_allowed a0_listCounter_open a0_listCounter_clash a0_listCounter_weight a0_listCounter_common a0_listCounter_gain a0_listCounter_sum a0_net_near a0_net_tail a0_net_head v0_listCounter_rest v0_listCounter_versionSeen v0_listCounter_restSeen w0_listCounter_open n0_listCounter_clash w0_listCounter_clash n0_listCounter_weight w0_listCounter_weight n0_listCounter_common w0_listCounter_common n0_listCounter_gain w0_listCounter_gain n0_listCounter_sum w0_listCounter_sum v0_net_nodes v0_net_arcCount v0_net_version w0_net_near w0_allowed) H.size q → A q := va_free hD hS hA [3, 4, 5, 6, 7, 8, 9, 1, 2, 10] rfl
  refine va_calll (va_runV (As := [.ref a0_net, .ref a0_allowed]) (rest := []) ⟨hx, hb, hml, hown, htt⟩ (c_LC_count l dC dI cI cJ cG cZ a0_listCounter a0_net a0_allowed a0_listCounter_open a0_listCounter_clash a0_listCounter_weight a0_listCounter_common a0_listCounter_gain a0_listCounter_sum a0_net_near a0_net_tail a0_net_head H.size F v0_listCounter_rest v0_listCounter_versionSeen v0_listCounter_restSeen w0_listCounter_open n0_listCounter_clash w0_listCounter_clash n0_listCounter_weight w0_listCounter_weight n0_listCounter_common w0_listCounter_common n0_listCounter_gain w0_listCounter_gain n0_listCounter_sum w0_listCounter_sum v0_net_nodes v0_net_arcCount v0_net_version w0_net_near w0_allowed q_1 v0_listCounter_rest_2 v0_listCounter_versionSeen_3 v0_listCounter_restSeen_4 w0_listCounter_open_5 n0_listCounter_clash_6 w0_listCounter_clash_7 n0_listCounter_weight_8 w0_listCounter_weight_9 n0_listCounter_common_10 w0_listCounter_common_11 n0_listCounter_gain_12 w0_listCounter_gain_13 n0_listCounter_sum_14 w0_listCounter_sum_15 hc_16 mc ms hg) (cwV 2 htt (gdV kt_453 kt_454 kt_455 kt_5 kt_456) rfl rfl rfl (by decide +kernel) ⟨(Nat.le_of_ble_eq_true rfl), (Nat.le_of_ble_eq_true rfl)⟩) ⟨PcS_blind, va_recv hK hPc (ci := 4) (q0 := 0) rfl rfl, PcS_in hPc hK hDc hNw⟩ rfl rfl hl.1 rfl (lv_room (Nat.le_of_ble_eq_true rfl)) d_CS_listed_12 ⟨(by show 0 + mc ≤ mc; omega), (by show 0 + ms ≤ ms; omega)⟩) hS (fun q _ h => hFc q h) hFc (fun r_18 u t H1 locs ht hvm hw hB hz1 hk1 hS => ?_)
  refine W.cs (Nat.zero_add mc) (Nat.zero_add ms) ?_
  obtain ⟨a0_listCounter_clash, a0_listCounter_weight, a0_listCounter_common, a0_listCounter_gain, a0_listCounter_sum⟩ := u
  obtain ⟨hP1, hK1, hD1⟩ := hB
  rw [ht] at hP1
  subst hw
  obtain ⟨hP, hD⟩ := va_join (wr := [(a0, .inr (0, [.ref a0_net, .ref a0_painter, .ref a0_polynomial, .ref a0_listCounter, .ref a0_setFinder, .ref a0_takingApart, .ref a0_greedyRun, .ref a0_allowed, .ref a0_shown, .ref a0_shades, .ref a0_attempt]))]) (w1 := (wd_LC_count cI cJ cG cZ a0_listCounter a0_net a0_allowed a0_listCounter_open a0_listCounter_clash a0_listCounter_weight a0_listCounter_common a0_listCounter_gain a0_listCounter_sum a0_net_near a0_net_tail a0_net_head v0_listCounter_rest_2 v0_listCounter_versionSeen_3 v0_listCounter_restSeen_4 w0_listCounter_open_5 n0_listCounter_clash_6 w0_listCounter_clash_7 n0_listCounter_weight_8 w0_listCounter_weight_9 n0_listCounter_common_10 w0_listCounter_common_11 n0_listCounter_gain_12 w0_listCounter_gain_13 n0_listCounter_sum_14 w0_listCounter_sum_15 v0_net_nodes v0_net_arcCount v0_net_version w0_net_near w0_allowed)) hP hD [3, 4, 5, 6, 7, 8, 9, 1, 2, 10] [0] rfl rfl (by decide) (by decide) hk1 hFc hP1 hD1
  have hP : va_P (dC, dI) vwCl (wd_CS_listed cI cJ cG cZ a0 a0_net a0_painter a0_polynomial a0_listCounter a0_setFinder a0_takingApart a0_greedyRun a0_allowed a0_shown a0_shades a0_attempt a0_net_near a0_net_tail a0_net_head a0_listCounter_open a0_listCounter_clash a0_listCounter_weight a0_listCounter_common a0_listCounter_gain a0_listCounter_sum v0_net_nodes v0_net_arcCount v0_net_version w0_net_near v0_listCounter_rest_2 v0_listCounter_versionSeen_3 v0_listCounter_restSeen_4 w0_listCounter_open_5 n0_listCounter_clash_6 w0_listCounter_clash_7 n0_listCounter_weight_8 w0_listCounter_weight_9 n0_listCounter_common_10 w0_listCounter_common_11 n0_listCounter_gain_12 w0_listCounter_gain_13 n0_listCounter_sum_14 w0_listCounter_sum_15 w0_allowed) H1 := hP.sub [0, 8, 9, 1, 2, 3, 4, 5, 6, 7, 10] rfl
  have hD : va_D A (wd_CS_listed cI cJ cG cZ a0 a0_net a0_painter a0_polynomial a0_listCounter a0_setFinder a0_takingApart a0_greedyRun a0_allowed a0_shown a0_shades a0_attempt a0_net_near a0_net_tail a0_net_head a0_listCounter_open a0_listCounter_clash a0_listCounter_weight a0_listCounter_common a0_listCounter_gain a0_listCounter_sum v0_net_nodes v0_net_arcCount v0_net_version w0_net_near v0_listCounter_rest_2 v0_listCounter_versionSeen_3 v0_listCounter_restSeen_4 w0_listCounter_open_5 n0_listCounter_clash_6 w0_listCounter_clash_7 n0_listCounter_weight_8 w0_listCounter_weight_9 n0_listCounter_common_10 w0_listCounter_common_11 n0_listCounter_gain_12 w0_listCounter_gain_13 n0_listCounter_sum_14 w0_listCounter_sum_15 w0_allowed) := hD.sub [0, 8, 9, 1, 2, 3, 4, 5, 6, 7, 10] (by decide) rfl
  clear hP1 hK1 hD1 hk1 hPc hDc hFc ht hvm hz1
  generalize H1 = H at hP hS ⊢
  cases hm
  exact W.lret hx hb hr (fun t ht hW => ⟨⟨_, (a0_listCounter_clash, a0_listCounter_weight, a0_listCounter_common, a0_listCounter_gain, a0_listCounter_sum), rfl, rfl, by rw [ht]; exact hP, va_K.moved hW.alike hK, hD⟩, hS.F ht⟩) hS.2.2 d_CS_listed_15
